set_option maxHeartbeats 4000000 in
set_option maxRecDepth 100000 in
theorem c_J6_bitCount_0f7a4 (l : Launch) (G : Gt) (sz : Nat) (x : Int32) (lq : Nat) (hv : ((((((((x - (((x).toUInt32 >>> ((1 : Int32).toUInt32 &&& Int32.toUInt32 31)).toInt32 &&& 1431655765)) &&& 858993459) + ((((x - (((x).toUInt32 >>> ((1 : Int32).toUInt32 &&& Int32.toUInt32 31)).toInt32 &&& 1431655765))).toUInt32 >>> ((2 : Int32).toUInt32 &&& Int32.toUInt32 31)).toInt32 &&& 858993459)) + (((((x - (((x).toUInt32 >>> ((1 : Int32).toUInt32 &&& Int32.toUInt32 31)).toInt32 &&& 1431655765)) &&& 858993459) + ((((x - (((x).toUInt32 >>> ((1 : Int32).toUInt32 &&& Int32.toUInt32 31)).toInt32 &&& 1431655765))).toUInt32 >>> ((2 : Int32).toUInt32 &&& Int32.toUInt32 31)).toInt32 &&& 858993459))).toUInt32 >>> ((4 : Int32).toUInt32 &&& Int32.toUInt32 31)).toInt32) &&& 252645135) + (((((((x - (((x).toUInt32 >>> ((1 : Int32).toUInt32 &&& Int32.toUInt32 31)).toInt32 &&& 1431655765)) &&& 858993459) + ((((x - (((x).toUInt32 >>> ((1 : Int32).toUInt32 &&& Int32.toUInt32 31)).toInt32 &&& 1431655765))).toUInt32 >>> ((2 : Int32).toUInt32 &&& Int32.toUInt32 31)).toInt32 &&& 858993459)) + (((((x - (((x).toUInt32 >>> ((1 : Int32).toUInt32 &&& Int32.toUInt32 31)).toInt32 &&& 1431655765)) &&& 858993459) + ((((x - (((x).toUInt32 >>> ((1 : Int32).toUInt32 &&& Int32.toUInt32 31)).toInt32 &&& 1431655765))).toUInt32 >>> ((2 : Int32).toUInt32 &&& Int32.toUInt32 31)).toInt32 &&& 858993459))).toUInt32 >>> ((4 : Int32).toUInt32 &&& Int32.toUInt32 31)).toInt32) &&& 252645135)).toUInt32 >>> ((8 : Int32).toUInt32 &&& Int32.toUInt32 31)).toInt32) + ((((((((x - (((x).toUInt32 >>> ((1 : Int32).toUInt32 &&& Int32.toUInt32 31)).toInt32 &&& 1431655765)) &&& 858993459) + ((((x - (((x).toUInt32 >>> ((1 : Int32).toUInt32 &&& Int32.toUInt32 31)).toInt32 &&& 1431655765))).toUInt32 >>> ((2 : Int32).toUInt32 &&& Int32.toUInt32 31)).toInt32 &&& 858993459)) + (((((x - (((x).toUInt32 >>> ((1 : Int32).toUInt32 &&& Int32.toUInt32 31)).toInt32 &&& 1431655765)) &&& 858993459) + ((((x - (((x).toUInt32 >>> ((1 : Int32).toUInt32 &&& Int32.toUInt32 31)).toInt32 &&& 1431655765))).toUInt32 >>> ((2 : Int32).toUInt32 &&& Int32.toUInt32 31)).toInt32 &&& 858993459))).toUInt32 >>> ((4 : Int32).toUInt32 &&& Int32.toUInt32 31)).toInt32) &&& 252645135) + (((((((x - (((x).toUInt32 >>> ((1 : Int32).toUInt32 &&& Int32.toUInt32 31)).toInt32 &&& 1431655765)) &&& 858993459) + ((((x - (((x).toUInt32 >>> ((1 : Int32).toUInt32 &&& Int32.toUInt32 31)).toInt32 &&& 1431655765))).toUInt32 >>> ((2 : Int32).toUInt32 &&& Int32.toUInt32 31)).toInt32 &&& 858993459)) + (((((x - (((x).toUInt32 >>> ((1 : Int32).toUInt32 &&& Int32.toUInt32 31)).toInt32 &&& 1431655765)) &&& 858993459) + ((((x - (((x).toUInt32 >>> ((1 : Int32).toUInt32 &&& Int32.toUInt32 31)).toInt32 &&& 1431655765))).toUInt32 >>> ((2 : Int32).toUInt32 &&& Int32.toUInt32 31)).toInt32 &&& 858993459))).toUInt32 >>> ((4 : Int32).toUInt32 &&& Int32.toUInt32 31)).toInt32) &&& 252645135)).toUInt32 >>> ((8 : Int32).toUInt32 &&& Int32.toUInt32 31)).toInt32)).toUInt32 >>> ((16 : Int32).toUInt32 &&& Int32.toUInt32 31)).toInt32) &&& 63) = nI (cntA (mA lq) 8)) : MetI l yJ6_bitCount_0f7a4 wsJ6_bitCount_0f7a4 0 0 G [.int x] [] sz (fun (r : Int32) (_ : Unit) => r = nI (cntA (mA lq) 8)) (fun (_ : Unit) => []) := by
  refine x_startI (cc := cJ6_bitCount_0f7a4) (maxL := 1) (ret := (some .int)) (by decide) rfl (Nat.le_of_ble_eq_true rfl) ?_
  intro p e s m args below meth c A R Q ls hRf hRl hQ C hP hD hS hA hSS hl
  obtain ⟨hx, hb, hr, hml, hown, hts, hlocks, hKK⟩ := C
  have hown : s.vm.findClass RJ6 = some m.cls := hown
  have hl : lv_has ls 1 [(0, .int x)] := hl
  have kl265 := hts (.constant RJ6 265 (1431655765)) (by decide +kernel)
  have kl266 := hts (.constant RJ6 266 (858993459)) (by decide +kernel)
  have kl267 := hts (.constant RJ6 267 (252645135)) (by decide +kernel)
  refine lv_iload_n hx hb dJ6_bitCount_0f7a4_0 rfl (lv_at hl 0 rfl) ?_
  refine lv_iload_n hx hb dJ6_bitCount_0f7a4_1 rfl (lv_at hl 0 rfl) ?_
  refine lv_iconst (v := 1) hx hb dJ6_bitCount_0f7a4_2 (by decide) ?_
  refine lv_iushr hx hb dJ6_bitCount_0f7a4_3 rfl ?_
  refine lv_ldcw (v := 1431655765) hx hb hown kl265 dJ6_bitCount_0f7a4_4 ?_
  refine lv_iand hx hb dJ6_bitCount_0f7a4_7 ?_
  refine lv_isub hx hb dJ6_bitCount_0f7a4_8 ?_
  refine lv_istore_n (lv' := [(0, .int (x - (((x).toUInt32 >>> ((1 : Int32).toUInt32 &&& Int32.toUInt32 31)).toInt32 &&& 1431655765)))]) hx hb dJ6_bitCount_0f7a4_9 rfl hl (by decide) rfl (fun ls hl => ?_)
  refine lv_iload_n hx hb dJ6_bitCount_0f7a4_10 rfl (lv_at hl 0 rfl) ?_
  refine lv_ldcw (v := 858993459) hx hb hown kl266 dJ6_bitCount_0f7a4_11 ?_
  refine lv_iand hx hb dJ6_bitCount_0f7a4_14 ?_
  refine lv_iload_n hx hb dJ6_bitCount_0f7a4_15 rfl (lv_at hl 0 rfl) ?_
  refine lv_iconst (v := 2) hx hb dJ6_bitCount_0f7a4_16 (by decide) ?_
  refine lv_iushr hx hb dJ6_bitCount_0f7a4_17 rfl ?_
  refine lv_ldcw (v := 858993459) hx hb hown kl266 dJ6_bitCount_0f7a4_18 ?_
  refine lv_iand hx hb dJ6_bitCount_0f7a4_21 ?_
  refine lv_iadd hx hb dJ6_bitCount_0f7a4_22 ?_
  refine lv_istore_n (lv' := [(0, .int (((x - (((x).toUInt32 >>> ((1 : Int32).toUInt32 &&& Int32.toUInt32 31)).toInt32 &&& 1431655765)) &&& 858993459) + ((((x - (((x).toUInt32 >>> ((1 : Int32).toUInt32 &&& Int32.toUInt32 31)).toInt32 &&& 1431655765))).toUInt32 >>> ((2 : Int32).toUInt32 &&& Int32.toUInt32 31)).toInt32 &&& 858993459)))]) hx hb dJ6_bitCount_0f7a4_23 rfl hl (by decide) rfl (fun ls hl => ?_)
  refine lv_iload_n hx hb dJ6_bitCount_0f7a4_24 rfl (lv_at hl 0 rfl) ?_
  refine lv_iload_n hx hb dJ6_bitCount_0f7a4_25 rfl (lv_at hl 0 rfl) ?_
  refine lv_iconst (v := 4) hx hb dJ6_bitCount_0f7a4_26 (by decide) ?_
  refine lv_iushr hx hb dJ6_bitCount_0f7a4_27 rfl ?_
  refine lv_iadd hx hb dJ6_bitCount_0f7a4_28 ?_
  refine lv_ldcw (v := 252645135) hx hb hown kl267 dJ6_bitCount_0f7a4_29 ?_
  refine lv_iand hx hb dJ6_bitCount_0f7a4_32 ?_
  refine lv_istore_n (lv' := [(0, .int (((((x - (((x).toUInt32 >>> ((1 : Int32).toUInt32 &&& Int32.toUInt32 31)).toInt32 &&& 1431655765)) &&& 858993459) + ((((x - (((x).toUInt32 >>> ((1 : Int32).toUInt32 &&& Int32.toUInt32 31)).toInt32 &&& 1431655765))).toUInt32 >>> ((2 : Int32).toUInt32 &&& Int32.toUInt32 31)).toInt32 &&& 858993459)) + (((((x - (((x).toUInt32 >>> ((1 : Int32).toUInt32 &&& Int32.toUInt32 31)).toInt32 &&& 1431655765)) &&& 858993459) + ((((x - (((x).toUInt32 >>> ((1 : Int32).toUInt32 &&& Int32.toUInt32 31)).toInt32 &&& 1431655765))).toUInt32 >>> ((2 : Int32).toUInt32 &&& Int32.toUInt32 31)).toInt32 &&& 858993459))).toUInt32 >>> ((4 : Int32).toUInt32 &&& Int32.toUInt32 31)).toInt32) &&& 252645135))]) hx hb dJ6_bitCount_0f7a4_33 rfl hl (by decide) rfl (fun ls hl => ?_)
  refine lv_iload_n hx hb dJ6_bitCount_0f7a4_34 rfl (lv_at hl 0 rfl) ?_
  refine lv_iload_n hx hb dJ6_bitCount_0f7a4_35 rfl (lv_at hl 0 rfl) ?_
  refine lv_bipush (v := 8) hx hb dJ6_bitCount_0f7a4_36 (by decide) ?_
  refine lv_iushr hx hb dJ6_bitCount_0f7a4_38 rfl ?_
  refine lv_iadd hx hb dJ6_bitCount_0f7a4_39 ?_
  refine lv_istore_n (lv' := [(0, .int ((((((x - (((x).toUInt32 >>> ((1 : Int32).toUInt32 &&& Int32.toUInt32 31)).toInt32 &&& 1431655765)) &&& 858993459) + ((((x - (((x).toUInt32 >>> ((1 : Int32).toUInt32 &&& Int32.toUInt32 31)).toInt32 &&& 1431655765))).toUInt32 >>> ((2 : Int32).toUInt32 &&& Int32.toUInt32 31)).toInt32 &&& 858993459)) + (((((x - (((x).toUInt32 >>> ((1 : Int32).toUInt32 &&& Int32.toUInt32 31)).toInt32 &&& 1431655765)) &&& 858993459) + ((((x - (((x).toUInt32 >>> ((1 : Int32).toUInt32 &&& Int32.toUInt32 31)).toInt32 &&& 1431655765))).toUInt32 >>> ((2 : Int32).toUInt32 &&& Int32.toUInt32 31)).toInt32 &&& 858993459))).toUInt32 >>> ((4 : Int32).toUInt32 &&& Int32.toUInt32 31)).toInt32) &&& 252645135) + (((((((x - (((x).toUInt32 >>> ((1 : Int32).toUInt32 &&& Int32.toUInt32 31)).toInt32 &&& 1431655765)) &&& 858993459) + ((((x - (((x).toUInt32 >>> ((1 : Int32).toUInt32 &&& Int32.toUInt32 31)).toInt32 &&& 1431655765))).toUInt32 >>> ((2 : Int32).toUInt32 &&& Int32.toUInt32 31)).toInt32 &&& 858993459)) + (((((x - (((x).toUInt32 >>> ((1 : Int32).toUInt32 &&& Int32.toUInt32 31)).toInt32 &&& 1431655765)) &&& 858993459) + ((((x - (((x).toUInt32 >>> ((1 : Int32).toUInt32 &&& Int32.toUInt32 31)).toInt32 &&& 1431655765))).toUInt32 >>> ((2 : Int32).toUInt32 &&& Int32.toUInt32 31)).toInt32 &&& 858993459))).toUInt32 >>> ((4 : Int32).toUInt32 &&& Int32.toUInt32 31)).toInt32) &&& 252645135)).toUInt32 >>> ((8 : Int32).toUInt32 &&& Int32.toUInt32 31)).toInt32))]) hx hb dJ6_bitCount_0f7a4_40 rfl hl (by decide) rfl (fun ls hl => ?_)
  refine lv_iload_n hx hb dJ6_bitCount_0f7a4_41 rfl (lv_at hl 0 rfl) ?_
  refine lv_iload_n hx hb dJ6_bitCount_0f7a4_42 rfl (lv_at hl 0 rfl) ?_
  refine lv_bipush (v := 16) hx hb dJ6_bitCount_0f7a4_43 (by decide) ?_
  refine lv_iushr hx hb dJ6_bitCount_0f7a4_45 rfl ?_
  refine lv_iadd hx hb dJ6_bitCount_0f7a4_46 ?_
  refine lv_istore_n (lv' := [(0, .int (((((((x - (((x).toUInt32 >>> ((1 : Int32).toUInt32 &&& Int32.toUInt32 31)).toInt32 &&& 1431655765)) &&& 858993459) + ((((x - (((x).toUInt32 >>> ((1 : Int32).toUInt32 &&& Int32.toUInt32 31)).toInt32 &&& 1431655765))).toUInt32 >>> ((2 : Int32).toUInt32 &&& Int32.toUInt32 31)).toInt32 &&& 858993459)) + (((((x - (((x).toUInt32 >>> ((1 : Int32).toUInt32 &&& Int32.toUInt32 31)).toInt32 &&& 1431655765)) &&& 858993459) + ((((x - (((x).toUInt32 >>> ((1 : Int32).toUInt32 &&& Int32.toUInt32 31)).toInt32 &&& 1431655765))).toUInt32 >>> ((2 : Int32).toUInt32 &&& Int32.toUInt32 31)).toInt32 &&& 858993459))).toUInt32 >>> ((4 : Int32).toUInt32 &&& Int32.toUInt32 31)).toInt32) &&& 252645135) + (((((((x - (((x).toUInt32 >>> ((1 : Int32).toUInt32 &&& Int32.toUInt32 31)).toInt32 &&& 1431655765)) &&& 858993459) + ((((x - (((x).toUInt32 >>> ((1 : Int32).toUInt32 &&& Int32.toUInt32 31)).toInt32 &&& 1431655765))).toUInt32 >>> ((2 : Int32).toUInt32 &&& Int32.toUInt32 31)).toInt32 &&& 858993459)) + (((((x - (((x).toUInt32 >>> ((1 : Int32).toUInt32 &&& Int32.toUInt32 31)).toInt32 &&& 1431655765)) &&& 858993459) + ((((x - (((x).toUInt32 >>> ((1 : Int32).toUInt32 &&& Int32.toUInt32 31)).toInt32 &&& 1431655765))).toUInt32 >>> ((2 : Int32).toUInt32 &&& Int32.toUInt32 31)).toInt32 &&& 858993459))).toUInt32 >>> ((4 : Int32).toUInt32 &&& Int32.toUInt32 31)).toInt32) &&& 252645135)).toUInt32 >>> ((8 : Int32).toUInt32 &&& Int32.toUInt32 31)).toInt32) + ((((((((x - (((x).toUInt32 >>> ((1 : Int32).toUInt32 &&& Int32.toUInt32 31)).toInt32 &&& 1431655765)) &&& 858993459) + ((((x - (((x).toUInt32 >>> ((1 : Int32).toUInt32 &&& Int32.toUInt32 31)).toInt32 &&& 1431655765))).toUInt32 >>> ((2 : Int32).toUInt32 &&& Int32.toUInt32 31)).toInt32 &&& 858993459)) + (((((x - (((x).toUInt32 >>> ((1 : Int32).toUInt32 &&& Int32.toUInt32 31)).toInt32 &&& 1431655765)) &&& 858993459) + ((((x - (((x).toUInt32 >>> ((1 : Int32).toUInt32 &&& Int32.toUInt32 31)).toInt32 &&& 1431655765))).toUInt32 >>> ((2 : Int32).toUInt32 &&& Int32.toUInt32 31)).toInt32 &&& 858993459))).toUInt32 >>> ((4 : Int32).toUInt32 &&& Int32.toUInt32 31)).toInt32) &&& 252645135) + (((((((x - (((x).toUInt32 >>> ((1 : Int32).toUInt32 &&& Int32.toUInt32 31)).toInt32 &&& 1431655765)) &&& 858993459) + ((((x - (((x).toUInt32 >>> ((1 : Int32).toUInt32 &&& Int32.toUInt32 31)).toInt32 &&& 1431655765))).toUInt32 >>> ((2 : Int32).toUInt32 &&& Int32.toUInt32 31)).toInt32 &&& 858993459)) + (((((x - (((x).toUInt32 >>> ((1 : Int32).toUInt32 &&& Int32.toUInt32 31)).toInt32 &&& 1431655765)) &&& 858993459) + ((((x - (((x).toUInt32 >>> ((1 : Int32).toUInt32 &&& Int32.toUInt32 31)).toInt32 &&& 1431655765))).toUInt32 >>> ((2 : Int32).toUInt32 &&& Int32.toUInt32 31)).toInt32 &&& 858993459))).toUInt32 >>> ((4 : Int32).toUInt32 &&& Int32.toUInt32 31)).toInt32) &&& 252645135)).toUInt32 >>> ((8 : Int32).toUInt32 &&& Int32.toUInt32 31)).toInt32)).toUInt32 >>> ((16 : Int32).toUInt32 &&& Int32.toUInt32 31)).toInt32))]) hx hb dJ6_bitCount_0f7a4_47 rfl hl (by decide) rfl (fun ls hl => ?_)
  refine lv_iload_n hx hb dJ6_bitCount_0f7a4_48 rfl (lv_at hl 0 rfl) ?_
  refine lv_bipush (v := 63) hx hb dJ6_bitCount_0f7a4_49 (by decide) ?_
  refine lv_iand hx hb dJ6_bitCount_0f7a4_51 ?_
  exact x_iret (v := ((((((((x - (((x).toUInt32 >>> ((1 : Int32).toUInt32 &&& Int32.toUInt32 31)).toInt32 &&& 1431655765)) &&& 858993459) + ((((x - (((x).toUInt32 >>> ((1 : Int32).toUInt32 &&& Int32.toUInt32 31)).toInt32 &&& 1431655765))).toUInt32 >>> ((2 : Int32).toUInt32 &&& Int32.toUInt32 31)).toInt32 &&& 858993459)) + (((((x - (((x).toUInt32 >>> ((1 : Int32).toUInt32 &&& Int32.toUInt32 31)).toInt32 &&& 1431655765)) &&& 858993459) + ((((x - (((x).toUInt32 >>> ((1 : Int32).toUInt32 &&& Int32.toUInt32 31)).toInt32 &&& 1431655765))).toUInt32 >>> ((2 : Int32).toUInt32 &&& Int32.toUInt32 31)).toInt32 &&& 858993459))).toUInt32 >>> ((4 : Int32).toUInt32 &&& Int32.toUInt32 31)).toInt32) &&& 252645135) + (((((((x - (((x).toUInt32 >>> ((1 : Int32).toUInt32 &&& Int32.toUInt32 31)).toInt32 &&& 1431655765)) &&& 858993459) + ((((x - (((x).toUInt32 >>> ((1 : Int32).toUInt32 &&& Int32.toUInt32 31)).toInt32 &&& 1431655765))).toUInt32 >>> ((2 : Int32).toUInt32 &&& Int32.toUInt32 31)).toInt32 &&& 858993459)) + (((((x - (((x).toUInt32 >>> ((1 : Int32).toUInt32 &&& Int32.toUInt32 31)).toInt32 &&& 1431655765)) &&& 858993459) + ((((x - (((x).toUInt32 >>> ((1 : Int32).toUInt32 &&& Int32.toUInt32 31)).toInt32 &&& 1431655765))).toUInt32 >>> ((2 : Int32).toUInt32 &&& Int32.toUInt32 31)).toInt32 &&& 858993459))).toUInt32 >>> ((4 : Int32).toUInt32 &&& Int32.toUInt32 31)).toInt32) &&& 252645135)).toUInt32 >>> ((8 : Int32).toUInt32 &&& Int32.toUInt32 31)).toInt32) + ((((((((x - (((x).toUInt32 >>> ((1 : Int32).toUInt32 &&& Int32.toUInt32 31)).toInt32 &&& 1431655765)) &&& 858993459) + ((((x - (((x).toUInt32 >>> ((1 : Int32).toUInt32 &&& Int32.toUInt32 31)).toInt32 &&& 1431655765))).toUInt32 >>> ((2 : Int32).toUInt32 &&& Int32.toUInt32 31)).toInt32 &&& 858993459)) + (((((x - (((x).toUInt32 >>> ((1 : Int32).toUInt32 &&& Int32.toUInt32 31)).toInt32 &&& 1431655765)) &&& 858993459) + ((((x - (((x).toUInt32 >>> ((1 : Int32).toUInt32 &&& Int32.toUInt32 31)).toInt32 &&& 1431655765))).toUInt32 >>> ((2 : Int32).toUInt32 &&& Int32.toUInt32 31)).toInt32 &&& 858993459))).toUInt32 >>> ((4 : Int32).toUInt32 &&& Int32.toUInt32 31)).toInt32) &&& 252645135) + (((((((x - (((x).toUInt32 >>> ((1 : Int32).toUInt32 &&& Int32.toUInt32 31)).toInt32 &&& 1431655765)) &&& 858993459) + ((((x - (((x).toUInt32 >>> ((1 : Int32).toUInt32 &&& Int32.toUInt32 31)).toInt32 &&& 1431655765))).toUInt32 >>> ((2 : Int32).toUInt32 &&& Int32.toUInt32 31)).toInt32 &&& 858993459)) + (((((x - (((x).toUInt32 >>> ((1 : Int32).toUInt32 &&& Int32.toUInt32 31)).toInt32 &&& 1431655765)) &&& 858993459) + ((((x - (((x).toUInt32 >>> ((1 : Int32).toUInt32 &&& Int32.toUInt32 31)).toInt32 &&& 1431655765))).toUInt32 >>> ((2 : Int32).toUInt32 &&& Int32.toUInt32 31)).toInt32 &&& 858993459))).toUInt32 >>> ((4 : Int32).toUInt32 &&& Int32.toUInt32 31)).toInt32) &&& 252645135)).toUInt32 >>> ((8 : Int32).toUInt32 &&& Int32.toUInt32 31)).toInt32)).toUInt32 >>> ((16 : Int32).toUInt32 &&& Int32.toUInt32 31)).toInt32) &&& 63)) () hQ hx hb hr hlocks hS dJ6_bitCount_0f7a4_52 hv hP hD
theorem v_J6_bitCount_0f7a4 (l : Launch) (G : Gt) (sz : Nat) (x : Int32) (lq : Nat) (hp : x = nI lq ∧ lq < 256) : ((((((((x - (((x).toUInt32 >>> ((1 : Int32).toUInt32 &&& Int32.toUInt32 31)).toInt32 &&& 1431655765)) &&& 858993459) + ((((x - (((x).toUInt32 >>> ((1 : Int32).toUInt32 &&& Int32.toUInt32 31)).toInt32 &&& 1431655765))).toUInt32 >>> ((2 : Int32).toUInt32 &&& Int32.toUInt32 31)).toInt32 &&& 858993459)) + (((((x - (((x).toUInt32 >>> ((1 : Int32).toUInt32 &&& Int32.toUInt32 31)).toInt32 &&& 1431655765)) &&& 858993459) + ((((x - (((x).toUInt32 >>> ((1 : Int32).toUInt32 &&& Int32.toUInt32 31)).toInt32 &&& 1431655765))).toUInt32 >>> ((2 : Int32).toUInt32 &&& Int32.toUInt32 31)).toInt32 &&& 858993459))).toUInt32 >>> ((4 : Int32).toUInt32 &&& Int32.toUInt32 31)).toInt32) &&& 252645135) + (((((((x - (((x).toUInt32 >>> ((1 : Int32).toUInt32 &&& Int32.toUInt32 31)).toInt32 &&& 1431655765)) &&& 858993459) + ((((x - (((x).toUInt32 >>> ((1 : Int32).toUInt32 &&& Int32.toUInt32 31)).toInt32 &&& 1431655765))).toUInt32 >>> ((2 : Int32).toUInt32 &&& Int32.toUInt32 31)).toInt32 &&& 858993459)) + (((((x - (((x).toUInt32 >>> ((1 : Int32).toUInt32 &&& Int32.toUInt32 31)).toInt32 &&& 1431655765)) &&& 858993459) + ((((x - (((x).toUInt32 >>> ((1 : Int32).toUInt32 &&& Int32.toUInt32 31)).toInt32 &&& 1431655765))).toUInt32 >>> ((2 : Int32).toUInt32 &&& Int32.toUInt32 31)).toInt32 &&& 858993459))).toUInt32 >>> ((4 : Int32).toUInt32 &&& Int32.toUInt32 31)).toInt32) &&& 252645135)).toUInt32 >>> ((8 : Int32).toUInt32 &&& Int32.toUInt32 31)).toInt32) + ((((((((x - (((x).toUInt32 >>> ((1 : Int32).toUInt32 &&& Int32.toUInt32 31)).toInt32 &&& 1431655765)) &&& 858993459) + ((((x - (((x).toUInt32 >>> ((1 : Int32).toUInt32 &&& Int32.toUInt32 31)).toInt32 &&& 1431655765))).toUInt32 >>> ((2 : Int32).toUInt32 &&& Int32.toUInt32 31)).toInt32 &&& 858993459)) + (((((x - (((x).toUInt32 >>> ((1 : Int32).toUInt32 &&& Int32.toUInt32 31)).toInt32 &&& 1431655765)) &&& 858993459) + ((((x - (((x).toUInt32 >>> ((1 : Int32).toUInt32 &&& Int32.toUInt32 31)).toInt32 &&& 1431655765))).toUInt32 >>> ((2 : Int32).toUInt32 &&& Int32.toUInt32 31)).toInt32 &&& 858993459))).toUInt32 >>> ((4 : Int32).toUInt32 &&& Int32.toUInt32 31)).toInt32) &&& 252645135) + (((((((x - (((x).toUInt32 >>> ((1 : Int32).toUInt32 &&& Int32.toUInt32 31)).toInt32 &&& 1431655765)) &&& 858993459) + ((((x - (((x).toUInt32 >>> ((1 : Int32).toUInt32 &&& Int32.toUInt32 31)).toInt32 &&& 1431655765))).toUInt32 >>> ((2 : Int32).toUInt32 &&& Int32.toUInt32 31)).toInt32 &&& 858993459)) + (((((x - (((x).toUInt32 >>> ((1 : Int32).toUInt32 &&& Int32.toUInt32 31)).toInt32 &&& 1431655765)) &&& 858993459) + ((((x - (((x).toUInt32 >>> ((1 : Int32).toUInt32 &&& Int32.toUInt32 31)).toInt32 &&& 1431655765))).toUInt32 >>> ((2 : Int32).toUInt32 &&& Int32.toUInt32 31)).toInt32 &&& 858993459))).toUInt32 >>> ((4 : Int32).toUInt32 &&& Int32.toUInt32 31)).toInt32) &&& 252645135)).toUInt32 >>> ((8 : Int32).toUInt32 &&& Int32.toUInt32 31)).toInt32)).toUInt32 >>> ((16 : Int32).toUInt32 &&& Int32.toUInt32 31)).toInt32) &&& 63) = nI (cntA (mA lq) 8) := by
  obtain ⟨rfl, h⟩ := hp
  revert h
  revert lq
  decide +kernel
theorem k_J6_bitCount_0f7a4 (l : Launch) (G : Gt) (sz : Nat) (x : Int32) (lq : Nat) (hp : x = nI lq ∧ lq < 256) : MetI l yJ6_bitCount_0f7a4 wsJ6_bitCount_0f7a4 0 0 G [.int x] [] sz (fun (r : Int32) (_ : Unit) => r = nI (cntA (mA lq) 8)) (fun (_ : Unit) => []) :=
  c_J6_bitCount_0f7a4 l G  sz x lq (v_J6_bitCount_0f7a4 l G  sz x lq hp)

set_option maxHeartbeats 4000000 in
set_option maxRecDepth 100000 in
theorem c_X7_sumOf8 (l : Launch) (G : Gt) (a0 : Nat) (sz : Nat) (f_ : Nat → Int32) (v : Nat → Int) (of : Nat) (nn : Nat) (hv : ∃ (I10_3 : Int32 → Int32 → Prop) (μ10_4 : Int32 → Int32 → Nat), I10_3 0 0 ∧ (∀ (x1_1 : Int32) (x4_2 : Int32), I10_3 x1_1 x4_2 → (8 ≤ x4_2 → x1_1.toInt = zSum v of nn) ∧ (¬ (8 ≤ x4_2) → (vp_in x4_2 8) ∧ (I10_3 (x1_1 + (f_ x4_2.toNatClampNeg)) (x4_2 + 1) ∧ μ10_4 (x1_1 + (f_ x4_2.toNatClampNeg)) (x4_2 + 1) < μ10_4 x1_1 x4_2)))) : MetI l yX7_sumOf wsX7_sumOf 0 0 G [.ref a0] [aI G a0 8 f_] sz (fun (r : Int32) (_ : Unit) => r.toInt = zSum v of nn) (fun (_ : Unit) => [aI G a0 8 f_]) := by
  refine x_startI (cc := cX7_sumOf) (maxL := 6) (ret := (some .int)) (by decide) rfl (Nat.le_of_ble_eq_true rfl) ?_
  intro p e s m args below meth c A R Q ls hRf hRl hQ C hP hD hS hA hSS hl
  obtain ⟨hx, hb, hr, hml, hown, hts, hlocks, hKK⟩ := C
  have hown : s.vm.findClass RX7 = some m.cls := hown
  have hl : lv_has ls 6 [(0, .ref a0)] := hl
  refine lv_iconst (v := 0) hx hb dX7_sumOf_0 (by decide) ?_
  refine lv_istore_n (lv' := [(1, .int 0), (0, .ref a0)]) hx hb dX7_sumOf_1 rfl hl (by decide) rfl (fun ls hl => ?_)
  refine lv_aload_n hx hb dX7_sumOf_2 rfl (lv_at hl 1 rfl) ?_
  refine lv_astore_n (lv' := [(2, .ref a0), (1, .int 0), (0, .ref a0)]) hx hb dX7_sumOf_3 rfl hl (by decide) rfl (fun ls hl => ?_)
  refine lv_aload_n hx hb dX7_sumOf_4 rfl (lv_at hl 0 rfl) ?_
  refine va_alen (v := 8) hx hb hKK.1 hP 0 0 rfl rfl rfl dX7_sumOf_5 ?_
  refine lv_istore_n (lv' := [(3, .int 8), (2, .ref a0), (1, .int 0), (0, .ref a0)]) hx hb dX7_sumOf_6 rfl hl (by decide) rfl (fun ls hl => ?_)
  refine lv_iconst (v := 0) hx hb dX7_sumOf_7 (by decide) ?_
  refine lv_istore (lv' := [(4, .int 0), (3, .int 8), (2, .ref a0), (1, .int 0), (0, .ref a0)]) hx hb dX7_sumOf_8 hl (by decide) rfl (fun ls hl => ?_)
  obtain ⟨I10_3, μ10_4, hi0, hs_8⟩ := hv
  have Lm_10 : ∀ (n_9 : Nat) (x1_1 : Int32) (x4_2 : Int32) (H : Heap) (locs : List Loc) (ls : Array Slot), μ10_4 x1_1 x4_2 < n_9 → I10_3 x1_1 x4_2 → va_P G.1 vwCl [aI G a0 8 f_] H → va_D A [aI G a0 8 f_] → va_S A s.heap H locs → lv_has ls 6 [(4, .int x4_2), (3, .int 8), (2, .ref a0), (1, .int x1_1), (0, .ref a0)] → W p l e R s m args below meth c H locs 0 0 Q (F0 m 10 ls []) := by
    intro n_9
    induction n_9 with
    | zero => intro x1_1 x4_2 H locs ls hm; exact absurd hm (Nat.not_lt_zero _)
    | succ n_9 ih_5 =>
      intro x1_1 x4_2 H locs ls hI_6 hi hP hD hS hl
      have hv := hs_8 x1_1 x4_2 hi
      refine lv_iload hx hb dX7_sumOf_10 (lv_at hl 0 rfl) ?_
      refine lv_iload_n hx hb dX7_sumOf_12 rfl (lv_at hl 1 rfl) ?_
      refine lv_icmp_ge (tgt := 33) hx hb dX7_sumOf_13 (by decide) (fun hc_7 => ?_) (fun hc_7 => ?_)
      · have hv := hv.1 hc_7
        refine lv_iload_n hx hb dX7_sumOf_33 rfl (lv_at hl 3 rfl) ?_
        exact x_iret (v := x1_1) () hQ hx hb hr hlocks hS dX7_sumOf_34 hv hP hD
      · have hv := hv.2 hc_7
        refine lv_aload_n hx hb dX7_sumOf_16 rfl (lv_at hl 2 rfl) ?_
        refine lv_iload hx hb dX7_sumOf_17 (lv_at hl 0 rfl) ?_
        obtain ⟨hin, hv⟩ := hv
        refine va_iald hx hb hKK.1 hP 0 0 rfl rfl hin dX7_sumOf_19 ?_
        refine lv_istore (lv' := [(5, .int (f_ x4_2.toNatClampNeg)), (4, .int x4_2), (3, .int 8), (2, .ref a0), (1, .int x1_1), (0, .ref a0)]) hx hb dX7_sumOf_20 hl (by decide) rfl (fun ls hl => ?_)
        refine lv_iload_n hx hb dX7_sumOf_22 rfl (lv_at hl 4 rfl) ?_
        refine lv_iload hx hb dX7_sumOf_23 (lv_at hl 0 rfl) ?_
        refine lv_iadd hx hb dX7_sumOf_25 ?_
        refine lv_istore_n (lv' := [(1, .int (x1_1 + (f_ x4_2.toNatClampNeg))), (5, .int (f_ x4_2.toNatClampNeg)), (4, .int x4_2), (3, .int 8), (2, .ref a0), (0, .ref a0)]) hx hb dX7_sumOf_26 rfl hl (by decide) rfl (fun ls hl => ?_)
        refine lv_iinc (v := (x4_2 + 1)) (lv' := [(4, .int (x4_2 + 1)), (1, .int (x1_1 + (f_ x4_2.toNatClampNeg))), (5, .int (f_ x4_2.toNatClampNeg)), (3, .int 8), (2, .ref a0), (0, .ref a0)]) hx hb dX7_sumOf_27 hl (k := 2) rfl rfl (by decide) rfl (fun ls hl => ?_)
        refine lv_goto (tgt := 10) hx hb dX7_sumOf_30 (by decide) ?_
        exact ih_5 _ _ _ _ _ (Nat.lt_of_lt_of_le hv.2 (Nat.le_of_lt_succ hI_6)) hv.1 hP hD hS (lv_sub hl [0, 3, 4, 1, 5] rfl)
  exact Lm_10 _ _ _ _ _ _ (Nat.lt_succ_self _) hi0 hP hD hS hl
theorem v_X7_sumOf8 (l : Launch) (G : Gt) (a0 : Nat) (sz : Nat) (f_ : Nat → Int32) (v : Nat → Int) (of : Nat) (nn : Nat) (hp : SumP f_ v of nn 8) : ∃ (I10_3 : Int32 → Int32 → Prop) (μ10_4 : Int32 → Int32 → Nat), I10_3 0 0 ∧ (∀ (x1_1 : Int32) (x4_2 : Int32), I10_3 x1_1 x4_2 → (8 ≤ x4_2 → x1_1.toInt = zSum v of nn) ∧ (¬ (8 ≤ x4_2) → (vp_in x4_2 8) ∧ (I10_3 (x1_1 + (f_ x4_2.toNatClampNeg)) (x4_2 + 1) ∧ μ10_4 (x1_1 + (f_ x4_2.toNatClampNeg)) (x4_2 + 1) < μ10_4 x1_1 x4_2))) := by
  obtain ⟨h1, h2, h3, h4⟩ := hp
  refine ⟨fun s z => ∃ i, i ≤ 8 ∧ z = nI i ∧ s.toInt = zSum v of (min i nn), fun _ z => 8 - z.toNatClampNeg, ⟨0, by omega, rfl, by rw [Nat.zero_min]; rfl⟩, ?_⟩
  rintro s z ⟨i, hi, rfl, hs⟩
  have ei : (nI i).toNatClampNeg = i := nI_clamp (by omega)
  have ei1 : nI i + 1 = nI (i + 1) := nI_1 i
  have ej : (nI (i + 1)).toNatClampNeg = i + 1 := nI_clamp (by omega)
  simp only [ei, ei1, ej]
  have h88 : (8 : Int32) ≤ nI i ↔ 8 ≤ i := nI_leI (a := 8) (by omega) (by omega)
  rw [h88]
  refine ⟨fun h => ?_, fun h => ⟨vp_in_nI (by omega) (by omega), ⟨i + 1, by omega, rfl, ?_⟩, by omega⟩⟩
  · rw [hs, Nat.min_eq_right (by omega)]
  · rcases Nat.lt_or_ge i nn with l | l
    · rw [Nat.min_eq_left (by omega)] at hs
      rw [Nat.min_eq_left (by omega), zSum]
      have b1 := zSum_nn (v := v) (o := of) (n := i) (fun j hj => (h4 j (by omega)).1)
      have b2 := zSum_le (v := v) (o := of) (n := i) (c := 20000000) (fun j hj => (h4 j (by omega)).2)
      have b3 := h4 i l
      exact i_add hs (h1 i l) (by omega) (by omega)
    · rw [Nat.min_eq_right (by omega)] at hs
      rw [Nat.min_eq_right (by omega), h2 i l (by omega), ← hs]
      simp
theorem k_X7_sumOf8 (l : Launch) (G : Gt) (a0 : Nat) (sz : Nat) (f_ : Nat → Int32) (v : Nat → Int) (of : Nat) (nn : Nat) (hp : SumP f_ v of nn 8) : MetI l yX7_sumOf wsX7_sumOf 0 0 G [.ref a0] [aI G a0 8 f_] sz (fun (r : Int32) (_ : Unit) => r.toInt = zSum v of nn) (fun (_ : Unit) => [aI G a0 8 f_]) :=
  c_X7_sumOf8 l G a0 sz f_ v of nn (v_X7_sumOf8 l G a0 sz f_ v of nn hp)

set_option maxHeartbeats 4000000 in
set_option maxRecDepth 100000 in
theorem c_X7_sumOf9 (l : Launch) (G : Gt) (a0 : Nat) (sz : Nat) (f_ : Nat → Int32) (v : Nat → Int) (of : Nat) (nn : Nat) (hv : ∃ (I10_3 : Int32 → Int32 → Prop) (μ10_4 : Int32 → Int32 → Nat), I10_3 0 0 ∧ (∀ (x1_1 : Int32) (x4_2 : Int32), I10_3 x1_1 x4_2 → (9 ≤ x4_2 → x1_1.toInt = zSum v of nn) ∧ (¬ (9 ≤ x4_2) → (vp_in x4_2 9) ∧ (I10_3 (x1_1 + (f_ x4_2.toNatClampNeg)) (x4_2 + 1) ∧ μ10_4 (x1_1 + (f_ x4_2.toNatClampNeg)) (x4_2 + 1) < μ10_4 x1_1 x4_2)))) : MetI l yX7_sumOf wsX7_sumOf 0 0 G [.ref a0] [aI G a0 9 f_] sz (fun (r : Int32) (_ : Unit) => r.toInt = zSum v of nn) (fun (_ : Unit) => [aI G a0 9 f_]) := by
  refine x_startI (cc := cX7_sumOf) (maxL := 6) (ret := (some .int)) (by decide) rfl (Nat.le_of_ble_eq_true rfl) ?_
  intro p e s m args below meth c A R Q ls hRf hRl hQ C hP hD hS hA hSS hl
  obtain ⟨hx, hb, hr, hml, hown, hts, hlocks, hKK⟩ := C
  have hown : s.vm.findClass RX7 = some m.cls := hown
  have hl : lv_has ls 6 [(0, .ref a0)] := hl
  refine lv_iconst (v := 0) hx hb dX7_sumOf_0 (by decide) ?_
  refine lv_istore_n (lv' := [(1, .int 0), (0, .ref a0)]) hx hb dX7_sumOf_1 rfl hl (by decide) rfl (fun ls hl => ?_)
  refine lv_aload_n hx hb dX7_sumOf_2 rfl (lv_at hl 1 rfl) ?_
  refine lv_astore_n (lv' := [(2, .ref a0), (1, .int 0), (0, .ref a0)]) hx hb dX7_sumOf_3 rfl hl (by decide) rfl (fun ls hl => ?_)
  refine lv_aload_n hx hb dX7_sumOf_4 rfl (lv_at hl 0 rfl) ?_
  refine va_alen (v := 9) hx hb hKK.1 hP 0 0 rfl rfl rfl dX7_sumOf_5 ?_
  refine lv_istore_n (lv' := [(3, .int 9), (2, .ref a0), (1, .int 0), (0, .ref a0)]) hx hb dX7_sumOf_6 rfl hl (by decide) rfl (fun ls hl => ?_)
  refine lv_iconst (v := 0) hx hb dX7_sumOf_7 (by decide) ?_
  refine lv_istore (lv' := [(4, .int 0), (3, .int 9), (2, .ref a0), (1, .int 0), (0, .ref a0)]) hx hb dX7_sumOf_8 hl (by decide) rfl (fun ls hl => ?_)
  obtain ⟨I10_3, μ10_4, hi0, hs_8⟩ := hv
  have Lm_10 : ∀ (n_9 : Nat) (x1_1 : Int32) (x4_2 : Int32) (H : Heap) (locs : List Loc) (ls : Array Slot), μ10_4 x1_1 x4_2 < n_9 → I10_3 x1_1 x4_2 → va_P G.1 vwCl [aI G a0 9 f_] H → va_D A [aI G a0 9 f_] → va_S A s.heap H locs → lv_has ls 6 [(4, .int x4_2), (3, .int 9), (2, .ref a0), (1, .int x1_1), (0, .ref a0)] → W p l e R s m args below meth c H locs 0 0 Q (F0 m 10 ls []) := by
    intro n_9
    induction n_9 with
    | zero => intro x1_1 x4_2 H locs ls hm; exact absurd hm (Nat.not_lt_zero _)
    | succ n_9 ih_5 =>
      intro x1_1 x4_2 H locs ls hI_6 hi hP hD hS hl
      have hv := hs_8 x1_1 x4_2 hi
      refine lv_iload hx hb dX7_sumOf_10 (lv_at hl 0 rfl) ?_
      refine lv_iload_n hx hb dX7_sumOf_12 rfl (lv_at hl 1 rfl) ?_
      refine lv_icmp_ge (tgt := 33) hx hb dX7_sumOf_13 (by decide) (fun hc_7 => ?_) (fun hc_7 => ?_)
      · have hv := hv.1 hc_7
        refine lv_iload_n hx hb dX7_sumOf_33 rfl (lv_at hl 3 rfl) ?_
        exact x_iret (v := x1_1) () hQ hx hb hr hlocks hS dX7_sumOf_34 hv hP hD
      · have hv := hv.2 hc_7
        refine lv_aload_n hx hb dX7_sumOf_16 rfl (lv_at hl 2 rfl) ?_
        refine lv_iload hx hb dX7_sumOf_17 (lv_at hl 0 rfl) ?_
        obtain ⟨hin, hv⟩ := hv
        refine va_iald hx hb hKK.1 hP 0 0 rfl rfl hin dX7_sumOf_19 ?_
        refine lv_istore (lv' := [(5, .int (f_ x4_2.toNatClampNeg)), (4, .int x4_2), (3, .int 9), (2, .ref a0), (1, .int x1_1), (0, .ref a0)]) hx hb dX7_sumOf_20 hl (by decide) rfl (fun ls hl => ?_)
        refine lv_iload_n hx hb dX7_sumOf_22 rfl (lv_at hl 4 rfl) ?_
        refine lv_iload hx hb dX7_sumOf_23 (lv_at hl 0 rfl) ?_
        refine lv_iadd hx hb dX7_sumOf_25 ?_
        refine lv_istore_n (lv' := [(1, .int (x1_1 + (f_ x4_2.toNatClampNeg))), (5, .int (f_ x4_2.toNatClampNeg)), (4, .int x4_2), (3, .int 9), (2, .ref a0), (0, .ref a0)]) hx hb dX7_sumOf_26 rfl hl (by decide) rfl (fun ls hl => ?_)
        refine lv_iinc (v := (x4_2 + 1)) (lv' := [(4, .int (x4_2 + 1)), (1, .int (x1_1 + (f_ x4_2.toNatClampNeg))), (5, .int (f_ x4_2.toNatClampNeg)), (3, .int 9), (2, .ref a0), (0, .ref a0)]) hx hb dX7_sumOf_27 hl (k := 2) rfl rfl (by decide) rfl (fun ls hl => ?_)
        refine lv_goto (tgt := 10) hx hb dX7_sumOf_30 (by decide) ?_
        exact ih_5 _ _ _ _ _ (Nat.lt_of_lt_of_le hv.2 (Nat.le_of_lt_succ hI_6)) hv.1 hP hD hS (lv_sub hl [0, 3, 4, 1, 5] rfl)
  exact Lm_10 _ _ _ _ _ _ (Nat.lt_succ_self _) hi0 hP hD hS hl
theorem v_X7_sumOf9 (l : Launch) (G : Gt) (a0 : Nat) (sz : Nat) (f_ : Nat → Int32) (v : Nat → Int) (of : Nat) (nn : Nat) (hp : SumP f_ v of nn 9) : ∃ (I10_3 : Int32 → Int32 → Prop) (μ10_4 : Int32 → Int32 → Nat), I10_3 0 0 ∧ (∀ (x1_1 : Int32) (x4_2 : Int32), I10_3 x1_1 x4_2 → (9 ≤ x4_2 → x1_1.toInt = zSum v of nn) ∧ (¬ (9 ≤ x4_2) → (vp_in x4_2 9) ∧ (I10_3 (x1_1 + (f_ x4_2.toNatClampNeg)) (x4_2 + 1) ∧ μ10_4 (x1_1 + (f_ x4_2.toNatClampNeg)) (x4_2 + 1) < μ10_4 x1_1 x4_2))) := by
  obtain ⟨h1, h2, h3, h4⟩ := hp
  refine ⟨fun s z => ∃ i, i ≤ 9 ∧ z = nI i ∧ s.toInt = zSum v of (min i nn), fun _ z => 9 - z.toNatClampNeg, ⟨0, by omega, rfl, by rw [Nat.zero_min]; rfl⟩, ?_⟩
  rintro s z ⟨i, hi, rfl, hs⟩
  have ei : (nI i).toNatClampNeg = i := nI_clamp (by omega)
  have ei1 : nI i + 1 = nI (i + 1) := nI_1 i
  have ej : (nI (i + 1)).toNatClampNeg = i + 1 := nI_clamp (by omega)
  simp only [ei, ei1, ej]
  have h99 : (9 : Int32) ≤ nI i ↔ 9 ≤ i := nI_leI (a := 9) (by omega) (by omega)
  rw [h99]
  refine ⟨fun h => ?_, fun h => ⟨vp_in_nI (by omega) (by omega), ⟨i + 1, by omega, rfl, ?_⟩, by omega⟩⟩
  · rw [hs, Nat.min_eq_right (by omega)]
  · rcases Nat.lt_or_ge i nn with l | l
    · rw [Nat.min_eq_left (by omega)] at hs
      rw [Nat.min_eq_left (by omega), zSum]
      have b1 := zSum_nn (v := v) (o := of) (n := i) (fun j hj => (h4 j (by omega)).1)
      have b2 := zSum_le (v := v) (o := of) (n := i) (c := 20000000) (fun j hj => (h4 j (by omega)).2)
      have b3 := h4 i l
      exact i_add hs (h1 i l) (by omega) (by omega)
    · rw [Nat.min_eq_right (by omega)] at hs
      rw [Nat.min_eq_right (by omega), h2 i l (by omega), ← hs]
      simp
theorem k_X7_sumOf9 (l : Launch) (G : Gt) (a0 : Nat) (sz : Nat) (f_ : Nat → Int32) (v : Nat → Int) (of : Nat) (nn : Nat) (hp : SumP f_ v of nn 9) : MetI l yX7_sumOf wsX7_sumOf 0 0 G [.ref a0] [aI G a0 9 f_] sz (fun (r : Int32) (_ : Unit) => r.toInt = zSum v of nn) (fun (_ : Unit) => [aI G a0 9 f_]) :=
  c_X7_sumOf9 l G a0 sz f_ v of nn (v_X7_sumOf9 l G a0 sz f_ v of nn hp)

set_option maxHeartbeats 4000000 in
set_option maxRecDepth 100000 in
theorem c_X7_feed (l : Launch) (G : Gt) (h0 e0 e01 : Nat) (sz : Nat) (t : Nat) (k : Nat) (n : Nat) (j : Nat) (i0 : Nat) (b0 : Nat) (s0 : Nat) (q : Nat) (g : Nat) (kp : Int32) (xb : Nat → Int32) (xl : Int32) (xf : Int32) (xg : Int32) (xa : Int32) (xt : Int32) (xr : Int32) (xn : Int32) (x : Int32) (y : Int64) (B : Nat → Int) (L : Nat) (hv : (¬ x < 1 ∧ ¬ 8 < x → (¬ 400 < xl + x → ∃ (gB_5 : Nat → Int) (gL_6 : Nat) (gnq_7 : Nat), ((CX gB_5 gL_6 xb xl ∧ x = nI gnq_7 ∧ 1 ≤ gnq_7 ∧ gnq_7 ≤ 8 ∧ gL_6 + gnq_7 ≤ 400) ∧ (∀ (xb2_9 : Nat → Int32) (xl2_10 : Int32), (CX (fdB gB_5 gL_6 gnq_7 y) (gL_6 + gnq_7) xb2_9 xl2_10) → (xl2_10.toInt = (qFd B L x.toInt y).1 ∧ CX (qFd B L x.toInt y).2.1 (qFd B L x.toInt y).2.2 xb2_9 xl2_10)))) ∧ (¬ (¬ 400 < xl + x) → ((-1000000004) : Int32).toInt = (qFd B L x.toInt y).1 ∧ CX (qFd B L x.toInt y).2.1 (qFd B L x.toInt y).2.2 xb xl)) ∧ (¬ (¬ x < 1 ∧ ¬ 8 < x) → ((-1000000002) : Int32).toInt = (qFd B L x.toInt y).1 ∧ CX (qFd B L x.toInt y).2.1 (qFd B L x.toInt y).2.2 xb xl)) : MetI l yX7_feed wsX7_feed 1 24 G [.ref h0, .int x, .long y] [(h0, .inr (7, [.ref e0, .ref t, .ref k, .ref n, .ref j, .ref i0, .int kp, .ref b0, .ref s0, .ref q, .ref g])), (e0, .inr (5, [.ref e01, .int xl, .int xf, .int xg, .int xa, .int xt, .int xr, .int xn])), aB G e01 400 xb] sz (fun (r : Int32) (u : (Nat → Int32) × (Int32)) => r.toInt = (qFd B L x.toInt y).1 ∧ CX (qFd B L x.toInt y).2.1 (qFd B L x.toInt y).2.2 u.1 u.2) (fun (u : (Nat → Int32) × (Int32)) => [(h0, .inr (7, [.ref e0, .ref t, .ref k, .ref n, .ref j, .ref i0, .int kp, .ref b0, .ref s0, .ref q, .ref g])), (e0, .inr (5, [.ref e01, .int u.2, .int xf, .int xg, .int xa, .int xt, .int xr, .int xn])), aB G e01 400 u.1]) := by
  refine x_startI (cc := cX7_feed) (maxL := 4) (ret := (some .int)) (by decide) rfl (Nat.le_of_ble_eq_true rfl) ?_
  intro p e s m args below meth c A R Q ls hRf hRl hQ C hP hD hS hA hSS hl
  obtain ⟨hx, hb, hr, hml, hown, hts, hlocks, hKK⟩ := C
  have hown : s.vm.findClass RX7 = some m.cls := hown
  have hl : lv_has ls 4 [(0, .ref h0), (1, .int x), (2, .long y)] := hl
  have hinX5 : ∀ w ∈ u_ws RX5 TX5 8, w ∈ wsX7_feed := by decide +kernel
  have hinX7 : ∀ w ∈ u_ws RX7 TX7 11, w ∈ wsX7_feed := by decide +kernel
  have kl10 := hts (.fieldLink RX7 10 "WarmStones" "text" "LWarmStones$Text;") (by decide +kernel)
  have kl72 := hts (.constant RX7 72 (-1000000002)) (by decide +kernel)
  have kl77 := hts (.constant RX7 77 (-1000000004)) (by decide +kernel)
  have kl82 := hts (.fieldLink RX7 82 "WarmStones$Text" "length" "I") (by decide +kernel)
  refine lv_iload_n hx hb dX7_feed_0 rfl (lv_at hl 1 rfl) ?_
  refine lv_iconst (v := 1) hx hb dX7_feed_1 (by decide) ?_
  refine lv_bipush (v := 8) hx hb dX7_feed_2 (by decide) ?_
  refine x_calliR (x_runS (As := [.int x, .int 1, .int 8]) (rest := []) (n := 3) ⟨hx, hb, hml, hown, hts⟩ (k_X7_within l G  _ x 1 8) gX7_feed_X7_within rfl (by decide +kernel) ⟨Nat.le_trans (Nat.le_of_ble_eq_true rfl) hRf, Nat.le_trans (Nat.le_of_ble_eq_true rfl) hRl⟩ hKK hSS hS hA hP hD [] (by decide) rfl rfl hl.1 rfl (Nat.le_of_ble_eq_true rfl) dX7_feed_4) hP hD hS hA [] rfl (fun r_1 _ H locs hw hP hS => ?_)
  replace hw := hw.symm; subst hw
  refine lv_if_ne (tgt := 13) hx hb dX7_feed_7 (by decide) (fun hc_2 => ?_) (fun hc_2 => ?_)
  · have hv := hv.1 (tv_eqn.mp hc_2)
    refine lv_aload_n hx hb dX7_feed_13 rfl (lv_at hl 0 rfl) ?_
    refine va_get (D := G.1) (ci := 7) (v := .ref e0) (C := RX7) (T := TX7) (N := 11) hx hb hts hinX7 hown hKK.1 hP 0 rfl rfl 0 (by decide) kl10 (fun _ h9 => h9) rfl dX7_feed_14 ?_
    refine lv_iload_n hx hb dX7_feed_17 rfl (lv_at hl 1 rfl) ?_
    refine x_calliR (x_runV (As := [.int x]) (rest := []) (n := 1) (C := RX5) (ci := 5) ⟨hx, hb, hml, hown, hts⟩ (k_X5_hasRoomFor l G e0 e01 _ xb xl xf xg xa xt xr xn x) gX7_feed_X5_hasRoomFor rfl (by decide +kernel) ⟨Nat.le_trans (Nat.le_of_ble_eq_true rfl) hRf, Nat.le_trans (Nat.le_of_ble_eq_true rfl) hRl⟩ hKK hSS hS hA hP hD [1, 2] (by decide) rfl rfl rfl 1 rfl rfl hl.1 rfl (Nat.le_of_ble_eq_true rfl) dX7_feed_18) hP hD hS hA [1, 2] rfl (fun r_3 _ H locs hw hP hS => ?_)
    replace hw := hw.symm; subst hw
    refine lv_if_ne (tgt := 27) hx hb dX7_feed_21 (by decide) (fun hc_4 => ?_) (fun hc_4 => ?_)
    · have hv := hv.1 (tv_eqn.mp hc_4)
      refine lv_aload_n hx hb dX7_feed_27 rfl (lv_at hl 0 rfl) ?_
      refine va_get (D := G.1) (ci := 7) (v := .ref e0) (C := RX7) (T := TX7) (N := 11) hx hb hts hinX7 hown hKK.1 hP 0 rfl rfl 0 (by decide) kl10 (fun _ h9 => h9) rfl dX7_feed_28 ?_
      refine lv_iload_n hx hb dX7_feed_31 rfl (lv_at hl 1 rfl) ?_
      refine lv_lload_n hx hb dX7_feed_32 rfl (lv_at hl 2 rfl) ?_
      obtain ⟨gB_5, gL_6, gnq_7, hv⟩ := hv
      obtain ⟨hp, hv⟩ := hv
      refine x_callv (wr := [(h0, .inr (7, [.ref e0, .ref t, .ref k, .ref n, .ref j, .ref i0, .int kp, .ref b0, .ref s0, .ref q, .ref g]))]) (w' := fun (u : (Nat → Int32) × (Int32)) => [(h0, .inr (7, [.ref e0, .ref t, .ref k, .ref n, .ref j, .ref i0, .int kp, .ref b0, .ref s0, .ref q, .ref g])), (e0, .inr (5, [.ref e01, .int u.2, .int xf, .int xg, .int xa, .int xt, .int xr, .int xn])), aB G e01 400 u.1]) (x_runV (As := [.int x, .long y]) (rest := []) (n := 2) (C := RX5) (ci := 5) ⟨hx, hb, hml, hown, hts⟩ (k_X5_append l G e0 e01 _ xb xl xf xg xa xt xr xn x y gB_5 gL_6 gnq_7 hp) gX7_feed_X5_append rfl (by decide +kernel) ⟨Nat.le_trans (Nat.le_of_ble_eq_true rfl) hRf, Nat.le_trans (Nat.le_of_ble_eq_true rfl) hRl⟩ hKK hSS hS hA hP hD [1, 2] (by decide) rfl rfl rfl 1 rfl rfl hl.1 rfl (Nat.le_of_ble_eq_true rfl) dX7_feed_33) hP hD hS hA [1, 2] [0] [0, 1, 2] rfl rfl (by decide) (by decide) (by decide) (fun _ => rfl) (fun  u H locs hw hP hD hS => ?_)
      obtain ⟨xb2_9, xl2_10⟩ := u
      have hP : va_P G.1 vwCl [(h0, .inr (7, [.ref e0, .ref t, .ref k, .ref n, .ref j, .ref i0, .int kp, .ref b0, .ref s0, .ref q, .ref g])), (e0, .inr (5, [.ref e01, .int xl2_10, .int xf, .int xg, .int xa, .int xt, .int xr, .int xn])), aB G e01 400 xb2_9] H := hP
      have hD : va_D A [(h0, .inr (7, [.ref e0, .ref t, .ref k, .ref n, .ref j, .ref i0, .int kp, .ref b0, .ref s0, .ref q, .ref g])), (e0, .inr (5, [.ref e01, .int xl2_10, .int xf, .int xg, .int xa, .int xt, .int xr, .int xn])), aB G e01 400 xb2_9] := hD
      have hv := hv xb2_9 xl2_10 hw
      refine lv_aload_n hx hb dX7_feed_36 rfl (lv_at hl 0 rfl) ?_
      refine va_get (D := G.1) (ci := 7) (v := .ref e0) (C := RX7) (T := TX7) (N := 11) hx hb hts hinX7 hown hKK.1 hP 0 rfl rfl 0 (by decide) kl10 (fun _ h9 => h9) rfl dX7_feed_37 ?_
      refine va_get (D := G.1) (ci := 5) (v := .int xl2_10) (C := RX5) (T := TX5) (N := 8) hx hb hts hinX5 hown hKK.1 hP 1 rfl rfl 1 (by decide) kl82 (fun _ h9 => h9) rfl dX7_feed_40 ?_
      exact x_iret (v := xl2_10) (xb2_9, xl2_10) hQ hx hb hr hlocks hS dX7_feed_43 hv hP hD
    · have hv := hv.2 (tv_eq.mp hc_4)
      refine lv_ldc (v := (-1000000004)) hx hb hown kl77 dX7_feed_24 ?_
      exact x_iret (v := (-1000000004)) (xb, xl) hQ hx hb hr hlocks hS dX7_feed_26 hv hP hD
  · have hv := hv.2 (tv_eq.mp hc_2)
    refine lv_ldc (v := (-1000000002)) hx hb hown kl72 dX7_feed_10 ?_
    exact x_iret (v := (-1000000002)) (xb, xl) hQ hx hb hr hlocks hS dX7_feed_12 hv hP hD
theorem v_X7_feed (l : Launch) (G : Gt) (h0 e0 e01 : Nat) (sz : Nat) (t : Nat) (k : Nat) (n : Nat) (j : Nat) (i0 : Nat) (b0 : Nat) (s0 : Nat) (q : Nat) (g : Nat) (kp : Int32) (xb : Nat → Int32) (xl : Int32) (xf : Int32) (xg : Int32) (xa : Int32) (xt : Int32) (xr : Int32) (xn : Int32) (x : Int32) (y : Int64) (B : Nat → Int) (L : Nat) (hp : CX B L xb xl) : (¬ x < 1 ∧ ¬ 8 < x → (¬ 400 < xl + x → ∃ (gB_5 : Nat → Int) (gL_6 : Nat) (gnq_7 : Nat), ((CX gB_5 gL_6 xb xl ∧ x = nI gnq_7 ∧ 1 ≤ gnq_7 ∧ gnq_7 ≤ 8 ∧ gL_6 + gnq_7 ≤ 400) ∧ (∀ (xb2_9 : Nat → Int32) (xl2_10 : Int32), (CX (fdB gB_5 gL_6 gnq_7 y) (gL_6 + gnq_7) xb2_9 xl2_10) → (xl2_10.toInt = (qFd B L x.toInt y).1 ∧ CX (qFd B L x.toInt y).2.1 (qFd B L x.toInt y).2.2 xb2_9 xl2_10)))) ∧ (¬ (¬ 400 < xl + x) → ((-1000000004) : Int32).toInt = (qFd B L x.toInt y).1 ∧ CX (qFd B L x.toInt y).2.1 (qFd B L x.toInt y).2.2 xb xl)) ∧ (¬ (¬ x < 1 ∧ ¬ 8 < x) → ((-1000000002) : Int32).toInt = (qFd B L x.toInt y).1 ∧ CX (qFd B L x.toInt y).2.1 (qFd B L x.toInt y).2.2 xb xl) := by
  have hX : CX B L xb xl := hp
  have hL := hX.1
  have hxl := hX.2.1
  have hx_ : (¬ x < 1 ∧ ¬ 8 < x) ↔ (1 ≤ x.toInt ∧ x.toInt ≤ 8) := wi_iff rfl rfl
  simp only [hx_]
  refine ⟨fun hx => ?_, fun h => ?_⟩
  · obtain ⟨n, hn, rfl, hni, hnt⟩ := in_nat (x := x) (n := 9) (by omega) (by omega)
    have e4 : (400 : Int32) < xl + nI n ↔ 400 < L + n := by
      rw [hxl, nI_add]; exact nI_ltI (a := 400) (by omega) (by omega)
    refine ⟨fun q => ?_, fun q => ?_⟩
    · have q : ¬ 400 < L + n := fun z => q (e4.mpr z)
      refine ⟨B, L, n, ⟨hX, rfl, by omega, by omega, by omega⟩, fun b2 l2 h2 => ?_⟩
      have e : qFd B L (nI n).toInt y = ((L : Int) + (n : Int), fdB B L n y, L + n) := by unfold qFd; rw [if_neg (fun z => z hx), if_neg (by omega), hnt, hni]
      rw [e]
      refine ⟨?_, h2⟩
      rw [h2.2.1, nI_toInt (by omega)]
      dsimp only
      omega
    · have q : 400 < L + n := e4.mp (Classical.not_not.mp q)
      have e : qFd B L (nI n).toInt y = (-1000000004, B, L) := by unfold qFd; rw [if_neg (fun z => z hx), if_pos (by omega)]
      rw [e]
      exact ⟨rfl, hX⟩
  · have e : qFd B L x.toInt y = (-1000000002, B, L) := by unfold qFd; rw [if_pos h]
    rw [e]
    exact ⟨rfl, hX⟩
theorem k_X7_feed (l : Launch) (G : Gt) (h0 e0 e01 : Nat) (sz : Nat) (t : Nat) (k : Nat) (n : Nat) (j : Nat) (i0 : Nat) (b0 : Nat) (s0 : Nat) (q : Nat) (g : Nat) (kp : Int32) (xb : Nat → Int32) (xl : Int32) (xf : Int32) (xg : Int32) (xa : Int32) (xt : Int32) (xr : Int32) (xn : Int32) (x : Int32) (y : Int64) (B : Nat → Int) (L : Nat) (hp : CX B L xb xl) : MetI l yX7_feed wsX7_feed 1 24 G [.ref h0, .int x, .long y] [(h0, .inr (7, [.ref e0, .ref t, .ref k, .ref n, .ref j, .ref i0, .int kp, .ref b0, .ref s0, .ref q, .ref g])), (e0, .inr (5, [.ref e01, .int xl, .int xf, .int xg, .int xa, .int xt, .int xr, .int xn])), aB G e01 400 xb] sz (fun (r : Int32) (u : (Nat → Int32) × (Int32)) => r.toInt = (qFd B L x.toInt y).1 ∧ CX (qFd B L x.toInt y).2.1 (qFd B L x.toInt y).2.2 u.1 u.2) (fun (u : (Nat → Int32) × (Int32)) => [(h0, .inr (7, [.ref e0, .ref t, .ref k, .ref n, .ref j, .ref i0, .int kp, .ref b0, .ref s0, .ref q, .ref g])), (e0, .inr (5, [.ref e01, .int u.2, .int xf, .int xg, .int xa, .int xt, .int xr, .int xn])), aB G e01 400 u.1]) :=
  c_X7_feed l G h0 e0 e01 sz t k n j i0 b0 s0 q g kp xb xl xf xg xa xt xr xn x y B L (v_X7_feed l G h0 e0 e01 sz t k n j i0 b0 s0 q g kp xb xl xf xg xa xt xr xn x y B L hp)

set_option maxHeartbeats 4000000 in
set_option maxRecDepth 100000 in
theorem c_X7_town (l : Launch) (G : Gt) (h0 e0 e01 t t1 t2 t3 t4 t5 t6 k k1 k2 k3 k4 k5 k6 n n1 n2 n3 n4 n5 n6 n7 b0 b01 b02 : Nat) (sz : Nat) (j : Nat) (i0 : Nat) (s0 : Nat) (q : Nat) (g : Nat) (kp : Int32) (xb : Nat → Int32) (xl : Int32) (xf : Int32) (xg : Int32) (xa : Int32) (xt : Int32) (xr : Int32) (xn : Int32) (ns : Int32) (np : Int32) (fu : Int32) (fd : Int32) (fi : Int32) (sz_ : Nat → Int32) (pt : Nat → Int32) (fh : Nat → Int32) (kd : Nat → Int32) (nd : Nat → Int32) (fw : Nat → Int32) (nsk : Int32) (npk : Int32) (fuk : Int32) (fdk : Int32) (fik : Int32) (sz_k : Nat → Int32) (ptk : Nat → Int32) (fhk : Nat → Int32) (kdk : Nat → Int32) (ndk : Nat → Int32) (fwk : Nat → Int32) (ht : Nat → Int32) (wm : Nat → Int32) (se : Nat → Int32) (cd : Nat → Int32) (sl : Nat → Int32) (od : Nat → Int32) (ow : Nat → Int32) (lo : Int32) (mi : Int32) (sd : Int32) (en : Int32) (bs : Nat → Int32) (bh : Nat → Int32) (B : Nat → Int) (L : Nat) (hv : ∃ (gB_1 : Nat → Int) (gL_2 : Nat), ((CX gB_1 gL_2 xb xl) ∧ (∀ (r_3 : Int32) (xl2_4 : Int32) (xa2_5 : Int32) (xt2_6 : Int32) (xg2_7 : Int32) (xf2_8 : Int32) (xr2_9 : Int32) (xn2_10 : Int32) (ns2_11 : Int32) (sz2_12 : Nat → Int32) (pt2_13 : Nat → Int32) (fh2_14 : Nat → Int32) (np2_15 : Int32) (kd2_16 : Nat → Int32) (nd2_17 : Nat → Int32) (fw2_18 : Nat → Int32) (fu2_19 : Int32) (fd2_20 : Int32) (fi2_21 : Int32), (xl2_4 = 0 ∧ CI (paT gB_1 gL_2) r_3 xf2_8 ns2_11 np2_15 fu2_19 fd2_20 fi2_21 sz2_12 pt2_13 fh2_14 kd2_16 nd2_17 fw2_18) → ((r_3 = 0 → ∃ (gT_23 : Nat → Nat → Int) (gNs_24 : Nat) (gNp_25 : Nat), ((TOK gT_23 gNs_24 gNp_25 ∧ CT gT_23 gNs_24 gNp_25 ns2_11 np2_15 fu2_19 fd2_20 fi2_21 sz2_12 pt2_13 kd2_16 nd2_17 ∧ (∀ b, b < gNs_24 → (fh2_14 b).toInt = gT_23 5 b) ∧ (∀ q, q < gNp_25 → (fw2_18 q).toInt = gT_23 6 q)) ∧ (∀ (ht2_27 : Nat → Int32) (wm2_28 : Nat → Int32) (se2_29 : Nat → Int32) (cd2_30 : Nat → Int32) (sl2_31 : Nat → Int32) (od2_32 : Nat → Int32) (ow2_33 : Nat → Int32) (lo2_34 : Int32) (mi2_35 : Int32), (CN gNs_24 gNp_25 (zBeg gT_23 sd.toInt) ht2_27 wm2_28 se2_29 cd2_30 sl2_31 od2_32 ow2_33 lo2_34 mi2_35 sd) → ((xl2_4 = 0 ∧ ((∃ f, paT B L = .inl f ∧ ns2_11 = -10 - nI f.1 ∧ xf2_8 = nI f.2 ∧ k = t ∧ t = k ∧ (0 : Int32) = kp ∧ (0 : Int32) = en ∧ ht2_27 = ht ∧ wm2_28 = wm ∧ se2_29 = se ∧ cd2_30 = cd ∧ sl2_31 = sl ∧ od2_32 = od ∧ ow2_33 = ow ∧ lo2_34 = lo ∧ mi2_35 = mi) ∨ (∃ z_, paT B L = .inr z_ ∧ ns2_11 = nI z_.1 ∧ xf2_8 = -1 ∧ k = k ∧ t = t ∧ (0 : Int32) = 0 ∧ (0 : Int32) = 0 ∧ CT z_.2.2.1 z_.1 z_.2.1 ns2_11 np2_15 fu2_19 fd2_20 fi2_21 sz2_12 pt2_13 kd2_16 nd2_17 ∧ CN z_.1 z_.2.1 (zBeg z_.2.2.1 sd.toInt) ht2_27 wm2_28 se2_29 cd2_30 sl2_31 od2_32 ow2_33 lo2_34 mi2_35 sd))))))) ∧ (¬ (r_3 = 0) → (xl2_4 = 0 ∧ ((∃ f, paT B L = .inl f ∧ ((-10) - r_3) = -10 - nI f.1 ∧ xf2_8 = nI f.2 ∧ t = t ∧ k = k ∧ kp = kp ∧ en = en ∧ ht = ht ∧ wm = wm ∧ se = se ∧ cd = cd ∧ sl = sl ∧ od = od ∧ ow = ow ∧ lo = lo ∧ mi = mi) ∨ (∃ z_, paT B L = .inr z_ ∧ ((-10) - r_3) = nI z_.1 ∧ xf2_8 = -1 ∧ t = k ∧ k = t ∧ kp = 0 ∧ en = 0 ∧ CT z_.2.2.1 z_.1 z_.2.1 ns2_11 np2_15 fu2_19 fd2_20 fi2_21 sz2_12 pt2_13 kd2_16 nd2_17 ∧ CN z_.1 z_.2.1 (zBeg z_.2.2.1 sd.toInt) ht wm se cd sl od ow lo mi sd)))))))) : MetI l yX7_town wsX7_town 9 194 G [.ref h0] [(h0, .inr (7, [.ref e0, .ref t, .ref k, .ref n, .ref j, .ref i0, .int kp, .ref b0, .ref s0, .ref q, .ref g])), (e0, .inr (5, [.ref e01, .int xl, .int xf, .int xg, .int xa, .int xt, .int xr, .int xn])), aB G e01 400 xb, (t, .inr (6, [.int ns, .int np, .int fu, .int fd, .int fi, .ref t1, .ref t2, .ref t3, .ref t4, .ref t5, .ref t6])), aI G t1 9 sz_, aI G t2 9 pt, aI G t3 9 fh, aI G t4 8 kd, aI G t5 8 nd, aI G t6 8 fw, (k, .inr (6, [.int nsk, .int npk, .int fuk, .int fdk, .int fik, .ref k1, .ref k2, .ref k3, .ref k4, .ref k5, .ref k6])), aI G k1 9 sz_k, aI G k2 9 ptk, aI G k3 9 fhk, aI G k4 8 kdk, aI G k5 8 ndk, aI G k6 8 fwk, (n, .inr (1, [.ref n1, .ref n2, .ref n3, .ref n4, .ref n5, .ref n6, .ref n7, .int lo, .int mi, .int sd])), aI G n1 9 ht, aI G n2 8 wm, aI G n3 8 se, aI G n4 8 cd, aI G n5 8 sl, aI G n6 8 od, aI G n7 72 ow, (b0, .inr (0, [.ref b01, .ref b02, .int en])), aI G b01 30 bs, aI G b02 30 bh] sz (fun (r : Int32) (u : (Int32) × (Int32) × (Int32) × (Int32) × (Int32) × (Int32) × (Int32) × (Int32) × (Nat → Int32) × (Nat → Int32) × (Nat → Int32) × (Int32) × (Nat → Int32) × (Nat → Int32) × (Nat → Int32) × (Int32) × (Int32) × (Int32) × (Nat) × (Nat) × (Int32) × (Nat → Int32) × (Nat → Int32) × (Nat → Int32) × (Nat → Int32) × (Nat → Int32) × (Nat → Int32) × (Nat → Int32) × (Int32) × (Int32) × (Int32)) => (u.1 = 0 ∧ ((∃ f, paT B L = .inl f ∧ r = -10 - nI f.1 ∧ u.2.2.2.2.1 = nI f.2 ∧ u.2.2.2.2.2.2.2.2.2.2.2.2.2.2.2.2.2.2.1 = t ∧ u.2.2.2.2.2.2.2.2.2.2.2.2.2.2.2.2.2.2.2.1 = k ∧ u.2.2.2.2.2.2.2.2.2.2.2.2.2.2.2.2.2.2.2.2.1 = kp ∧ u.2.2.2.2.2.2.2.2.2.2.2.2.2.2.2.2.2.2.2.2.2.2.2.2.2.2.2.2.2.2 = en ∧ u.2.2.2.2.2.2.2.2.2.2.2.2.2.2.2.2.2.2.2.2.2.1 = ht ∧ u.2.2.2.2.2.2.2.2.2.2.2.2.2.2.2.2.2.2.2.2.2.2.1 = wm ∧ u.2.2.2.2.2.2.2.2.2.2.2.2.2.2.2.2.2.2.2.2.2.2.2.1 = se ∧ u.2.2.2.2.2.2.2.2.2.2.2.2.2.2.2.2.2.2.2.2.2.2.2.2.1 = cd ∧ u.2.2.2.2.2.2.2.2.2.2.2.2.2.2.2.2.2.2.2.2.2.2.2.2.2.1 = sl ∧ u.2.2.2.2.2.2.2.2.2.2.2.2.2.2.2.2.2.2.2.2.2.2.2.2.2.2.1 = od ∧ u.2.2.2.2.2.2.2.2.2.2.2.2.2.2.2.2.2.2.2.2.2.2.2.2.2.2.2.1 = ow ∧ u.2.2.2.2.2.2.2.2.2.2.2.2.2.2.2.2.2.2.2.2.2.2.2.2.2.2.2.2.1 = lo ∧ u.2.2.2.2.2.2.2.2.2.2.2.2.2.2.2.2.2.2.2.2.2.2.2.2.2.2.2.2.2.1 = mi) ∨ (∃ z_, paT B L = .inr z_ ∧ r = nI z_.1 ∧ u.2.2.2.2.1 = -1 ∧ u.2.2.2.2.2.2.2.2.2.2.2.2.2.2.2.2.2.2.1 = k ∧ u.2.2.2.2.2.2.2.2.2.2.2.2.2.2.2.2.2.2.2.1 = t ∧ u.2.2.2.2.2.2.2.2.2.2.2.2.2.2.2.2.2.2.2.2.1 = 0 ∧ u.2.2.2.2.2.2.2.2.2.2.2.2.2.2.2.2.2.2.2.2.2.2.2.2.2.2.2.2.2.2 = 0 ∧ CT z_.2.2.1 z_.1 z_.2.1 u.2.2.2.2.2.2.2.1 u.2.2.2.2.2.2.2.2.2.2.2.1 u.2.2.2.2.2.2.2.2.2.2.2.2.2.2.2.1 u.2.2.2.2.2.2.2.2.2.2.2.2.2.2.2.2.1 u.2.2.2.2.2.2.2.2.2.2.2.2.2.2.2.2.2.1 u.2.2.2.2.2.2.2.2.1 u.2.2.2.2.2.2.2.2.2.1 u.2.2.2.2.2.2.2.2.2.2.2.2.1 u.2.2.2.2.2.2.2.2.2.2.2.2.2.1 ∧ CN z_.1 z_.2.1 (zBeg z_.2.2.1 sd.toInt) u.2.2.2.2.2.2.2.2.2.2.2.2.2.2.2.2.2.2.2.2.2.1 u.2.2.2.2.2.2.2.2.2.2.2.2.2.2.2.2.2.2.2.2.2.2.1 u.2.2.2.2.2.2.2.2.2.2.2.2.2.2.2.2.2.2.2.2.2.2.2.1 u.2.2.2.2.2.2.2.2.2.2.2.2.2.2.2.2.2.2.2.2.2.2.2.2.1 u.2.2.2.2.2.2.2.2.2.2.2.2.2.2.2.2.2.2.2.2.2.2.2.2.2.1 u.2.2.2.2.2.2.2.2.2.2.2.2.2.2.2.2.2.2.2.2.2.2.2.2.2.2.1 u.2.2.2.2.2.2.2.2.2.2.2.2.2.2.2.2.2.2.2.2.2.2.2.2.2.2.2.1 u.2.2.2.2.2.2.2.2.2.2.2.2.2.2.2.2.2.2.2.2.2.2.2.2.2.2.2.2.1 u.2.2.2.2.2.2.2.2.2.2.2.2.2.2.2.2.2.2.2.2.2.2.2.2.2.2.2.2.2.1 sd)))) (fun (u : (Int32) × (Int32) × (Int32) × (Int32) × (Int32) × (Int32) × (Int32) × (Int32) × (Nat → Int32) × (Nat → Int32) × (Nat → Int32) × (Int32) × (Nat → Int32) × (Nat → Int32) × (Nat → Int32) × (Int32) × (Int32) × (Int32) × (Nat) × (Nat) × (Int32) × (Nat → Int32) × (Nat → Int32) × (Nat → Int32) × (Nat → Int32) × (Nat → Int32) × (Nat → Int32) × (Nat → Int32) × (Int32) × (Int32) × (Int32)) => [(h0, .inr (7, [.ref e0, .ref u.2.2.2.2.2.2.2.2.2.2.2.2.2.2.2.2.2.2.1, .ref u.2.2.2.2.2.2.2.2.2.2.2.2.2.2.2.2.2.2.2.1, .ref n, .ref j, .ref i0, .int u.2.2.2.2.2.2.2.2.2.2.2.2.2.2.2.2.2.2.2.2.1, .ref b0, .ref s0, .ref q, .ref g])), (e0, .inr (5, [.ref e01, .int u.1, .int u.2.2.2.2.1, .int u.2.2.2.1, .int u.2.1, .int u.2.2.1, .int u.2.2.2.2.2.1, .int u.2.2.2.2.2.2.1])), aB G e01 400 xb, (t, .inr (6, [.int ns, .int np, .int fu, .int fd, .int fi, .ref t1, .ref t2, .ref t3, .ref t4, .ref t5, .ref t6])), aI G t1 9 sz_, aI G t2 9 pt, aI G t3 9 fh, aI G t4 8 kd, aI G t5 8 nd, aI G t6 8 fw, (k, .inr (6, [.int u.2.2.2.2.2.2.2.1, .int u.2.2.2.2.2.2.2.2.2.2.2.1, .int u.2.2.2.2.2.2.2.2.2.2.2.2.2.2.2.1, .int u.2.2.2.2.2.2.2.2.2.2.2.2.2.2.2.2.1, .int u.2.2.2.2.2.2.2.2.2.2.2.2.2.2.2.2.2.1, .ref k1, .ref k2, .ref k3, .ref k4, .ref k5, .ref k6])), aI G k1 9 u.2.2.2.2.2.2.2.2.1, aI G k2 9 u.2.2.2.2.2.2.2.2.2.1, aI G k3 9 u.2.2.2.2.2.2.2.2.2.2.1, aI G k4 8 u.2.2.2.2.2.2.2.2.2.2.2.2.1, aI G k5 8 u.2.2.2.2.2.2.2.2.2.2.2.2.2.1, aI G k6 8 u.2.2.2.2.2.2.2.2.2.2.2.2.2.2.1, (n, .inr (1, [.ref n1, .ref n2, .ref n3, .ref n4, .ref n5, .ref n6, .ref n7, .int u.2.2.2.2.2.2.2.2.2.2.2.2.2.2.2.2.2.2.2.2.2.2.2.2.2.2.2.2.1, .int u.2.2.2.2.2.2.2.2.2.2.2.2.2.2.2.2.2.2.2.2.2.2.2.2.2.2.2.2.2.1, .int sd])), aI G n1 9 u.2.2.2.2.2.2.2.2.2.2.2.2.2.2.2.2.2.2.2.2.2.1, aI G n2 8 u.2.2.2.2.2.2.2.2.2.2.2.2.2.2.2.2.2.2.2.2.2.2.1, aI G n3 8 u.2.2.2.2.2.2.2.2.2.2.2.2.2.2.2.2.2.2.2.2.2.2.2.1, aI G n4 8 u.2.2.2.2.2.2.2.2.2.2.2.2.2.2.2.2.2.2.2.2.2.2.2.2.1, aI G n5 8 u.2.2.2.2.2.2.2.2.2.2.2.2.2.2.2.2.2.2.2.2.2.2.2.2.2.1, aI G n6 8 u.2.2.2.2.2.2.2.2.2.2.2.2.2.2.2.2.2.2.2.2.2.2.2.2.2.2.1, aI G n7 72 u.2.2.2.2.2.2.2.2.2.2.2.2.2.2.2.2.2.2.2.2.2.2.2.2.2.2.2.1, (b0, .inr (0, [.ref b01, .ref b02, .int u.2.2.2.2.2.2.2.2.2.2.2.2.2.2.2.2.2.2.2.2.2.2.2.2.2.2.2.2.2.2])), aI G b01 30 bs, aI G b02 30 bh]) := by
  refine x_startI (cc := cX7_town) (maxL := 3) (ret := (some .int)) (by decide) rfl (Nat.le_of_ble_eq_true rfl) ?_
  intro p e s m args below meth c A R Q ls hRf hRl hQ C hP hD hS hA hSS hl
  obtain ⟨hx, hb, hr, hml, hown, hts, hlocks, hKK⟩ := C
  have hown : s.vm.findClass RX7 = some m.cls := hown
  have hl : lv_has ls 3 [(0, .ref h0)] := hl
  have hinX0 : ∀ w ∈ u_ws RX0 TX0 3, w ∈ wsX7_town := by decide +kernel
  have hinX6 : ∀ w ∈ u_ws RX6 TX6 11, w ∈ wsX7_town := by decide +kernel
  have hinX7 : ∀ w ∈ u_ws RX7 TX7 11, w ∈ wsX7_town := by decide +kernel
  have kl10 := hts (.fieldLink RX7 10 "WarmStones" "text" "LWarmStones$Text;") (by decide +kernel)
  have kl100 := hts (.fieldLink RX7 100 "WarmStones$Town" "stones" "I") (by decide +kernel)
  have kl19 := hts (.fieldLink RX7 19 "WarmStones" "town" "LWarmStones$Town;") (by decide +kernel)
  have kl23 := hts (.fieldLink RX7 23 "WarmStones" "spare" "LWarmStones$Town;") (by decide +kernel)
  have kl29 := hts (.fieldLink RX7 29 "WarmStones" "night" "LWarmStones$Night;") (by decide +kernel)
  have kl43 := hts (.fieldLink RX7 43 "WarmStones" "book" "LWarmStones$Book;") (by decide +kernel)
  have kl94 := hts (.fieldLink RX7 94 "WarmStones$Book" "entries" "I") (by decide +kernel)
  have kl97 := hts (.fieldLink RX7 97 "WarmStones" "kept" "I") (by decide +kernel)
  refine lv_aload_n hx hb dX7_town_0 rfl (lv_at hl 0 rfl) ?_
  refine va_get (D := G.1) (ci := 7) (v := .ref e0) (C := RX7) (T := TX7) (N := 11) hx hb hts hinX7 hown hKK.1 hP 0 rfl rfl 0 (by decide) kl10 (fun _ h9 => h9) rfl dX7_town_1 ?_
  refine lv_aload_n hx hb dX7_town_4 rfl (lv_at hl 0 rfl) ?_
  refine va_get (D := G.1) (ci := 7) (v := .ref k) (C := RX7) (T := TX7) (N := 11) hx hb hts hinX7 hown hKK.1 hP 0 rfl rfl 2 (by decide) kl23 (fun _ h9 => h9) rfl dX7_town_5 ?_
  obtain ⟨gB_1, gL_2, hv⟩ := hv
  obtain ⟨hp, hv⟩ := hv
  refine x_calli (wr := [(h0, .inr (7, [.ref e0, .ref t, .ref k, .ref n, .ref j, .ref i0, .int kp, .ref b0, .ref s0, .ref q, .ref g])), (t, .inr (6, [.int ns, .int np, .int fu, .int fd, .int fi, .ref t1, .ref t2, .ref t3, .ref t4, .ref t5, .ref t6])), aI G t1 9 sz_, aI G t2 9 pt, aI G t3 9 fh, aI G t4 8 kd, aI G t5 8 nd, aI G t6 8 fw, (n, .inr (1, [.ref n1, .ref n2, .ref n3, .ref n4, .ref n5, .ref n6, .ref n7, .int lo, .int mi, .int sd])), aI G n1 9 ht, aI G n2 8 wm, aI G n3 8 se, aI G n4 8 cd, aI G n5 8 sl, aI G n6 8 od, aI G n7 72 ow, (b0, .inr (0, [.ref b01, .ref b02, .int en])), aI G b01 30 bs, aI G b02 30 bh]) (w' := fun (u : (Int32) × (Int32) × (Int32) × (Int32) × (Int32) × (Int32) × (Int32) × (Int32) × (Nat → Int32) × (Nat → Int32) × (Nat → Int32) × (Int32) × (Nat → Int32) × (Nat → Int32) × (Nat → Int32) × (Int32) × (Int32) × (Int32)) => [(h0, .inr (7, [.ref e0, .ref t, .ref k, .ref n, .ref j, .ref i0, .int kp, .ref b0, .ref s0, .ref q, .ref g])), (e0, .inr (5, [.ref e01, .int u.1, .int u.2.2.2.2.1, .int u.2.2.2.1, .int u.2.1, .int u.2.2.1, .int u.2.2.2.2.2.1, .int u.2.2.2.2.2.2.1])), aB G e01 400 xb, (t, .inr (6, [.int ns, .int np, .int fu, .int fd, .int fi, .ref t1, .ref t2, .ref t3, .ref t4, .ref t5, .ref t6])), aI G t1 9 sz_, aI G t2 9 pt, aI G t3 9 fh, aI G t4 8 kd, aI G t5 8 nd, aI G t6 8 fw, (k, .inr (6, [.int u.2.2.2.2.2.2.2.1, .int u.2.2.2.2.2.2.2.2.2.2.2.1, .int u.2.2.2.2.2.2.2.2.2.2.2.2.2.2.2.1, .int u.2.2.2.2.2.2.2.2.2.2.2.2.2.2.2.2.1, .int u.2.2.2.2.2.2.2.2.2.2.2.2.2.2.2.2.2, .ref k1, .ref k2, .ref k3, .ref k4, .ref k5, .ref k6])), aI G k1 9 u.2.2.2.2.2.2.2.2.1, aI G k2 9 u.2.2.2.2.2.2.2.2.2.1, aI G k3 9 u.2.2.2.2.2.2.2.2.2.2.1, aI G k4 8 u.2.2.2.2.2.2.2.2.2.2.2.2.1, aI G k5 8 u.2.2.2.2.2.2.2.2.2.2.2.2.2.1, aI G k6 8 u.2.2.2.2.2.2.2.2.2.2.2.2.2.2.1, (n, .inr (1, [.ref n1, .ref n2, .ref n3, .ref n4, .ref n5, .ref n6, .ref n7, .int lo, .int mi, .int sd])), aI G n1 9 ht, aI G n2 8 wm, aI G n3 8 se, aI G n4 8 cd, aI G n5 8 sl, aI G n6 8 od, aI G n7 72 ow, (b0, .inr (0, [.ref b01, .ref b02, .int en])), aI G b01 30 bs, aI G b02 30 bh]) (x_runV (As := [.ref k]) (rest := []) (n := 1) (C := RX5) (ci := 5) ⟨hx, hb, hml, hown, hts⟩ (k_X5_readInto l G e0 e01 k k1 k2 k3 k4 k5 k6 _ xb xl xf xg xa xt xr xn nsk npk fuk fdk fik sz_k ptk fhk kdk ndk fwk gB_1 gL_2 hp) gX7_town_X5_readInto rfl (by decide +kernel) ⟨Nat.le_trans (Nat.le_of_ble_eq_true rfl) hRf, Nat.le_trans (Nat.le_of_ble_eq_true rfl) hRl⟩ hKK hSS hS hA hP hD [1, 2, 10, 11, 12, 13, 14, 15, 16] (by decide) rfl rfl rfl 1 rfl rfl hl.1 rfl (Nat.le_of_ble_eq_true rfl) dX7_town_8) hP hD hS hA [1, 2, 10, 11, 12, 13, 14, 15, 16] [0, 3, 4, 5, 6, 7, 8, 9, 17, 18, 19, 20, 21, 22, 23, 24, 25, 26, 27] [0, 19, 20, 1, 2, 3, 4, 5, 6, 7, 21, 22, 23, 24, 25, 26, 27, 8, 9, 10, 11, 12, 13, 14, 15, 16, 17, 18] rfl rfl (by decide) (by decide) (by decide) (fun _ => rfl) (fun r_3 u H locs hw hP hD hS => ?_)
  obtain ⟨xl2_4, xa2_5, xt2_6, xg2_7, xf2_8, xr2_9, xn2_10, ns2_11, sz2_12, pt2_13, fh2_14, np2_15, kd2_16, nd2_17, fw2_18, fu2_19, fd2_20, fi2_21⟩ := u
  have hP : va_P G.1 vwCl [(h0, .inr (7, [.ref e0, .ref t, .ref k, .ref n, .ref j, .ref i0, .int kp, .ref b0, .ref s0, .ref q, .ref g])), (e0, .inr (5, [.ref e01, .int xl2_4, .int xf2_8, .int xg2_7, .int xa2_5, .int xt2_6, .int xr2_9, .int xn2_10])), aB G e01 400 xb, (t, .inr (6, [.int ns, .int np, .int fu, .int fd, .int fi, .ref t1, .ref t2, .ref t3, .ref t4, .ref t5, .ref t6])), aI G t1 9 sz_, aI G t2 9 pt, aI G t3 9 fh, aI G t4 8 kd, aI G t5 8 nd, aI G t6 8 fw, (k, .inr (6, [.int ns2_11, .int np2_15, .int fu2_19, .int fd2_20, .int fi2_21, .ref k1, .ref k2, .ref k3, .ref k4, .ref k5, .ref k6])), aI G k1 9 sz2_12, aI G k2 9 pt2_13, aI G k3 9 fh2_14, aI G k4 8 kd2_16, aI G k5 8 nd2_17, aI G k6 8 fw2_18, (n, .inr (1, [.ref n1, .ref n2, .ref n3, .ref n4, .ref n5, .ref n6, .ref n7, .int lo, .int mi, .int sd])), aI G n1 9 ht, aI G n2 8 wm, aI G n3 8 se, aI G n4 8 cd, aI G n5 8 sl, aI G n6 8 od, aI G n7 72 ow, (b0, .inr (0, [.ref b01, .ref b02, .int en])), aI G b01 30 bs, aI G b02 30 bh] H := hP
  have hD : va_D A [(h0, .inr (7, [.ref e0, .ref t, .ref k, .ref n, .ref j, .ref i0, .int kp, .ref b0, .ref s0, .ref q, .ref g])), (e0, .inr (5, [.ref e01, .int xl2_4, .int xf2_8, .int xg2_7, .int xa2_5, .int xt2_6, .int xr2_9, .int xn2_10])), aB G e01 400 xb, (t, .inr (6, [.int ns, .int np, .int fu, .int fd, .int fi, .ref t1, .ref t2, .ref t3, .ref t4, .ref t5, .ref t6])), aI G t1 9 sz_, aI G t2 9 pt, aI G t3 9 fh, aI G t4 8 kd, aI G t5 8 nd, aI G t6 8 fw, (k, .inr (6, [.int ns2_11, .int np2_15, .int fu2_19, .int fd2_20, .int fi2_21, .ref k1, .ref k2, .ref k3, .ref k4, .ref k5, .ref k6])), aI G k1 9 sz2_12, aI G k2 9 pt2_13, aI G k3 9 fh2_14, aI G k4 8 kd2_16, aI G k5 8 nd2_17, aI G k6 8 fw2_18, (n, .inr (1, [.ref n1, .ref n2, .ref n3, .ref n4, .ref n5, .ref n6, .ref n7, .int lo, .int mi, .int sd])), aI G n1 9 ht, aI G n2 8 wm, aI G n3 8 se, aI G n4 8 cd, aI G n5 8 sl, aI G n6 8 od, aI G n7 72 ow, (b0, .inr (0, [.ref b01, .ref b02, .int en])), aI G b01 30 bs, aI G b02 30 bh] := hD
  have hv := hv r_3 xl2_4 xa2_5 xt2_6 xg2_7 xf2_8 xr2_9 xn2_10 ns2_11 sz2_12 pt2_13 fh2_14 np2_15 kd2_16 nd2_17 fw2_18 fu2_19 fd2_20 fi2_21 hw
  refine lv_istore_n (lv' := [(1, .int r_3), (0, .ref h0)]) hx hb dX7_town_11 rfl hl (by decide) rfl (fun ls hl => ?_)
  refine lv_iload_n hx hb dX7_town_12 rfl (lv_at hl 0 rfl) ?_
  refine lv_if_eq (tgt := 21) hx hb dX7_town_13 (by decide) (fun hc_22 => ?_) (fun hc_22 => ?_)
  · have hv := hv.1 hc_22
    refine lv_aload_n hx hb dX7_town_21 rfl (lv_at hl 1 rfl) ?_
    refine va_get (D := G.1) (ci := 7) (v := .ref t) (C := RX7) (T := TX7) (N := 11) hx hb hts hinX7 hown hKK.1 hP 0 rfl rfl 1 (by decide) kl19 (fun _ h9 => h9) rfl dX7_town_22 ?_
    refine lv_astore_n (lv' := [(2, .ref t), (1, .int r_3), (0, .ref h0)]) hx hb dX7_town_25 rfl hl (by decide) rfl (fun ls hl => ?_)
    refine lv_aload_n hx hb dX7_town_26 rfl (lv_at hl 2 rfl) ?_
    refine lv_aload_n hx hb dX7_town_27 rfl (lv_at hl 2 rfl) ?_
    refine va_get (D := G.1) (ci := 7) (v := .ref k) (C := RX7) (T := TX7) (N := 11) hx hb hts hinX7 hown hKK.1 hP 0 rfl rfl 2 (by decide) kl23 (fun _ h9 => h9) rfl dX7_town_28 ?_
    refine va_put (D := G.1) (ci := 7) (v := .ref k) (ty := .object "WarmStones$Town") (C := RX7) (T := TX7) (N := 11) hx hb hts hinX7 tyX7 tyX7_ok nmX7 hown hKK.1 hP hD hS 0 rfl rfl 1 (by decide) kl19 (fun _ h9 => h9) rfl (by decide +kernel) rfl rfl (Nat.le_of_ble_eq_true rfl) dX7_town_31 (fun H locs hP hD hS => ?_)
    have hP : va_P G.1 vwCl [(h0, .inr (7, [.ref e0, .ref k, .ref k, .ref n, .ref j, .ref i0, .int kp, .ref b0, .ref s0, .ref q, .ref g])), (e0, .inr (5, [.ref e01, .int xl2_4, .int xf2_8, .int xg2_7, .int xa2_5, .int xt2_6, .int xr2_9, .int xn2_10])), aB G e01 400 xb, (t, .inr (6, [.int ns, .int np, .int fu, .int fd, .int fi, .ref t1, .ref t2, .ref t3, .ref t4, .ref t5, .ref t6])), aI G t1 9 sz_, aI G t2 9 pt, aI G t3 9 fh, aI G t4 8 kd, aI G t5 8 nd, aI G t6 8 fw, (k, .inr (6, [.int ns2_11, .int np2_15, .int fu2_19, .int fd2_20, .int fi2_21, .ref k1, .ref k2, .ref k3, .ref k4, .ref k5, .ref k6])), aI G k1 9 sz2_12, aI G k2 9 pt2_13, aI G k3 9 fh2_14, aI G k4 8 kd2_16, aI G k5 8 nd2_17, aI G k6 8 fw2_18, (n, .inr (1, [.ref n1, .ref n2, .ref n3, .ref n4, .ref n5, .ref n6, .ref n7, .int lo, .int mi, .int sd])), aI G n1 9 ht, aI G n2 8 wm, aI G n3 8 se, aI G n4 8 cd, aI G n5 8 sl, aI G n6 8 od, aI G n7 72 ow, (b0, .inr (0, [.ref b01, .ref b02, .int en])), aI G b01 30 bs, aI G b02 30 bh] H := hP
    have hD : va_D A [(h0, .inr (7, [.ref e0, .ref k, .ref k, .ref n, .ref j, .ref i0, .int kp, .ref b0, .ref s0, .ref q, .ref g])), (e0, .inr (5, [.ref e01, .int xl2_4, .int xf2_8, .int xg2_7, .int xa2_5, .int xt2_6, .int xr2_9, .int xn2_10])), aB G e01 400 xb, (t, .inr (6, [.int ns, .int np, .int fu, .int fd, .int fi, .ref t1, .ref t2, .ref t3, .ref t4, .ref t5, .ref t6])), aI G t1 9 sz_, aI G t2 9 pt, aI G t3 9 fh, aI G t4 8 kd, aI G t5 8 nd, aI G t6 8 fw, (k, .inr (6, [.int ns2_11, .int np2_15, .int fu2_19, .int fd2_20, .int fi2_21, .ref k1, .ref k2, .ref k3, .ref k4, .ref k5, .ref k6])), aI G k1 9 sz2_12, aI G k2 9 pt2_13, aI G k3 9 fh2_14, aI G k4 8 kd2_16, aI G k5 8 nd2_17, aI G k6 8 fw2_18, (n, .inr (1, [.ref n1, .ref n2, .ref n3, .ref n4, .ref n5, .ref n6, .ref n7, .int lo, .int mi, .int sd])), aI G n1 9 ht, aI G n2 8 wm, aI G n3 8 se, aI G n4 8 cd, aI G n5 8 sl, aI G n6 8 od, aI G n7 72 ow, (b0, .inr (0, [.ref b01, .ref b02, .int en])), aI G b01 30 bs, aI G b02 30 bh] := hD
    refine lv_aload_n hx hb dX7_town_34 rfl (lv_at hl 2 rfl) ?_
    refine lv_aload_n hx hb dX7_town_35 rfl (lv_at hl 0 rfl) ?_
    refine va_put (D := G.1) (ci := 7) (v := .ref t) (ty := .object "WarmStones$Town") (C := RX7) (T := TX7) (N := 11) hx hb hts hinX7 tyX7 tyX7_ok nmX7 hown hKK.1 hP hD hS 0 rfl rfl 2 (by decide) kl23 (fun _ h9 => h9) rfl (by decide +kernel) rfl rfl (Nat.le_of_ble_eq_true rfl) dX7_town_36 (fun H locs hP hD hS => ?_)
    have hP : va_P G.1 vwCl [(h0, .inr (7, [.ref e0, .ref k, .ref t, .ref n, .ref j, .ref i0, .int kp, .ref b0, .ref s0, .ref q, .ref g])), (e0, .inr (5, [.ref e01, .int xl2_4, .int xf2_8, .int xg2_7, .int xa2_5, .int xt2_6, .int xr2_9, .int xn2_10])), aB G e01 400 xb, (t, .inr (6, [.int ns, .int np, .int fu, .int fd, .int fi, .ref t1, .ref t2, .ref t3, .ref t4, .ref t5, .ref t6])), aI G t1 9 sz_, aI G t2 9 pt, aI G t3 9 fh, aI G t4 8 kd, aI G t5 8 nd, aI G t6 8 fw, (k, .inr (6, [.int ns2_11, .int np2_15, .int fu2_19, .int fd2_20, .int fi2_21, .ref k1, .ref k2, .ref k3, .ref k4, .ref k5, .ref k6])), aI G k1 9 sz2_12, aI G k2 9 pt2_13, aI G k3 9 fh2_14, aI G k4 8 kd2_16, aI G k5 8 nd2_17, aI G k6 8 fw2_18, (n, .inr (1, [.ref n1, .ref n2, .ref n3, .ref n4, .ref n5, .ref n6, .ref n7, .int lo, .int mi, .int sd])), aI G n1 9 ht, aI G n2 8 wm, aI G n3 8 se, aI G n4 8 cd, aI G n5 8 sl, aI G n6 8 od, aI G n7 72 ow, (b0, .inr (0, [.ref b01, .ref b02, .int en])), aI G b01 30 bs, aI G b02 30 bh] H := hP
    have hD : va_D A [(h0, .inr (7, [.ref e0, .ref k, .ref t, .ref n, .ref j, .ref i0, .int kp, .ref b0, .ref s0, .ref q, .ref g])), (e0, .inr (5, [.ref e01, .int xl2_4, .int xf2_8, .int xg2_7, .int xa2_5, .int xt2_6, .int xr2_9, .int xn2_10])), aB G e01 400 xb, (t, .inr (6, [.int ns, .int np, .int fu, .int fd, .int fi, .ref t1, .ref t2, .ref t3, .ref t4, .ref t5, .ref t6])), aI G t1 9 sz_, aI G t2 9 pt, aI G t3 9 fh, aI G t4 8 kd, aI G t5 8 nd, aI G t6 8 fw, (k, .inr (6, [.int ns2_11, .int np2_15, .int fu2_19, .int fd2_20, .int fi2_21, .ref k1, .ref k2, .ref k3, .ref k4, .ref k5, .ref k6])), aI G k1 9 sz2_12, aI G k2 9 pt2_13, aI G k3 9 fh2_14, aI G k4 8 kd2_16, aI G k5 8 nd2_17, aI G k6 8 fw2_18, (n, .inr (1, [.ref n1, .ref n2, .ref n3, .ref n4, .ref n5, .ref n6, .ref n7, .int lo, .int mi, .int sd])), aI G n1 9 ht, aI G n2 8 wm, aI G n3 8 se, aI G n4 8 cd, aI G n5 8 sl, aI G n6 8 od, aI G n7 72 ow, (b0, .inr (0, [.ref b01, .ref b02, .int en])), aI G b01 30 bs, aI G b02 30 bh] := hD
    refine lv_aload_n hx hb dX7_town_39 rfl (lv_at hl 2 rfl) ?_
    refine va_get (D := G.1) (ci := 7) (v := .ref n) (C := RX7) (T := TX7) (N := 11) hx hb hts hinX7 hown hKK.1 hP 0 rfl rfl 3 (by decide) kl29 (fun _ h9 => h9) rfl dX7_town_40 ?_
    refine lv_aload_n hx hb dX7_town_43 rfl (lv_at hl 2 rfl) ?_
    refine va_get (D := G.1) (ci := 7) (v := .ref k) (C := RX7) (T := TX7) (N := 11) hx hb hts hinX7 hown hKK.1 hP 0 rfl rfl 1 (by decide) kl19 (fun _ h9 => h9) rfl dX7_town_44 ?_
    obtain ⟨gT_23, gNs_24, gNp_25, hv⟩ := hv
    obtain ⟨hp, hv⟩ := hv
    refine x_callv (wr := [(h0, .inr (7, [.ref e0, .ref k, .ref t, .ref n, .ref j, .ref i0, .int kp, .ref b0, .ref s0, .ref q, .ref g])), (e0, .inr (5, [.ref e01, .int xl2_4, .int xf2_8, .int xg2_7, .int xa2_5, .int xt2_6, .int xr2_9, .int xn2_10])), aB G e01 400 xb, (t, .inr (6, [.int ns, .int np, .int fu, .int fd, .int fi, .ref t1, .ref t2, .ref t3, .ref t4, .ref t5, .ref t6])), aI G t1 9 sz_, aI G t2 9 pt, aI G t3 9 fh, aI G t4 8 kd, aI G t5 8 nd, aI G t6 8 fw, (b0, .inr (0, [.ref b01, .ref b02, .int en])), aI G b01 30 bs, aI G b02 30 bh]) (w' := fun (u : (Nat → Int32) × (Nat → Int32) × (Nat → Int32) × (Nat → Int32) × (Nat → Int32) × (Nat → Int32) × (Nat → Int32) × (Int32) × (Int32)) => [(h0, .inr (7, [.ref e0, .ref k, .ref t, .ref n, .ref j, .ref i0, .int kp, .ref b0, .ref s0, .ref q, .ref g])), (e0, .inr (5, [.ref e01, .int xl2_4, .int xf2_8, .int xg2_7, .int xa2_5, .int xt2_6, .int xr2_9, .int xn2_10])), aB G e01 400 xb, (t, .inr (6, [.int ns, .int np, .int fu, .int fd, .int fi, .ref t1, .ref t2, .ref t3, .ref t4, .ref t5, .ref t6])), aI G t1 9 sz_, aI G t2 9 pt, aI G t3 9 fh, aI G t4 8 kd, aI G t5 8 nd, aI G t6 8 fw, (k, .inr (6, [.int ns2_11, .int np2_15, .int fu2_19, .int fd2_20, .int fi2_21, .ref k1, .ref k2, .ref k3, .ref k4, .ref k5, .ref k6])), aI G k1 9 sz2_12, aI G k2 9 pt2_13, aI G k3 9 fh2_14, aI G k4 8 kd2_16, aI G k5 8 nd2_17, aI G k6 8 fw2_18, (n, .inr (1, [.ref n1, .ref n2, .ref n3, .ref n4, .ref n5, .ref n6, .ref n7, .int u.2.2.2.2.2.2.2.1, .int u.2.2.2.2.2.2.2.2, .int sd])), aI G n1 9 u.1, aI G n2 8 u.2.1, aI G n3 8 u.2.2.1, aI G n4 8 u.2.2.2.1, aI G n5 8 u.2.2.2.2.1, aI G n6 8 u.2.2.2.2.2.1, aI G n7 72 u.2.2.2.2.2.2.1, (b0, .inr (0, [.ref b01, .ref b02, .int en])), aI G b01 30 bs, aI G b02 30 bh]) (x_runV (As := [.ref k]) (rest := []) (n := 1) (C := RX1) (ci := 1) ⟨hx, hb, hml, hown, hts⟩ (k_X1_begin l G n n1 n2 n3 n4 n5 n6 n7 k k1 k2 k3 k4 k5 k6 _ ht wm se cd sl od ow lo mi sd ns2_11 np2_15 fu2_19 fd2_20 fi2_21 sz2_12 pt2_13 fh2_14 kd2_16 nd2_17 fw2_18 gT_23 gNs_24 gNp_25 hp) gX7_town_X1_begin rfl (by decide +kernel) ⟨Nat.le_trans (Nat.le_of_ble_eq_true rfl) hRf, Nat.le_trans (Nat.le_of_ble_eq_true rfl) hRl⟩ hKK hSS hS hA hP hD [17, 18, 19, 20, 21, 22, 23, 24, 10, 11, 12, 13, 14, 15, 16] (by decide) rfl rfl rfl 17 rfl rfl hl.1 rfl (Nat.le_of_ble_eq_true rfl) dX7_town_47) hP hD hS hA [17, 18, 19, 20, 21, 22, 23, 24, 10, 11, 12, 13, 14, 15, 16] [0, 1, 2, 3, 4, 5, 6, 7, 8, 9, 25, 26, 27] [0, 1, 2, 3, 4, 5, 6, 7, 8, 9, 21, 22, 23, 24, 25, 26, 27, 13, 14, 15, 16, 17, 18, 19, 20, 10, 11, 12] rfl rfl (by decide) (by decide) (by decide) (fun _ => rfl) (fun  u H locs hw hP hD hS => ?_)
    obtain ⟨ht2_27, wm2_28, se2_29, cd2_30, sl2_31, od2_32, ow2_33, lo2_34, mi2_35⟩ := u
    have hP : va_P G.1 vwCl [(h0, .inr (7, [.ref e0, .ref k, .ref t, .ref n, .ref j, .ref i0, .int kp, .ref b0, .ref s0, .ref q, .ref g])), (e0, .inr (5, [.ref e01, .int xl2_4, .int xf2_8, .int xg2_7, .int xa2_5, .int xt2_6, .int xr2_9, .int xn2_10])), aB G e01 400 xb, (t, .inr (6, [.int ns, .int np, .int fu, .int fd, .int fi, .ref t1, .ref t2, .ref t3, .ref t4, .ref t5, .ref t6])), aI G t1 9 sz_, aI G t2 9 pt, aI G t3 9 fh, aI G t4 8 kd, aI G t5 8 nd, aI G t6 8 fw, (k, .inr (6, [.int ns2_11, .int np2_15, .int fu2_19, .int fd2_20, .int fi2_21, .ref k1, .ref k2, .ref k3, .ref k4, .ref k5, .ref k6])), aI G k1 9 sz2_12, aI G k2 9 pt2_13, aI G k3 9 fh2_14, aI G k4 8 kd2_16, aI G k5 8 nd2_17, aI G k6 8 fw2_18, (n, .inr (1, [.ref n1, .ref n2, .ref n3, .ref n4, .ref n5, .ref n6, .ref n7, .int lo2_34, .int mi2_35, .int sd])), aI G n1 9 ht2_27, aI G n2 8 wm2_28, aI G n3 8 se2_29, aI G n4 8 cd2_30, aI G n5 8 sl2_31, aI G n6 8 od2_32, aI G n7 72 ow2_33, (b0, .inr (0, [.ref b01, .ref b02, .int en])), aI G b01 30 bs, aI G b02 30 bh] H := hP
    have hD : va_D A [(h0, .inr (7, [.ref e0, .ref k, .ref t, .ref n, .ref j, .ref i0, .int kp, .ref b0, .ref s0, .ref q, .ref g])), (e0, .inr (5, [.ref e01, .int xl2_4, .int xf2_8, .int xg2_7, .int xa2_5, .int xt2_6, .int xr2_9, .int xn2_10])), aB G e01 400 xb, (t, .inr (6, [.int ns, .int np, .int fu, .int fd, .int fi, .ref t1, .ref t2, .ref t3, .ref t4, .ref t5, .ref t6])), aI G t1 9 sz_, aI G t2 9 pt, aI G t3 9 fh, aI G t4 8 kd, aI G t5 8 nd, aI G t6 8 fw, (k, .inr (6, [.int ns2_11, .int np2_15, .int fu2_19, .int fd2_20, .int fi2_21, .ref k1, .ref k2, .ref k3, .ref k4, .ref k5, .ref k6])), aI G k1 9 sz2_12, aI G k2 9 pt2_13, aI G k3 9 fh2_14, aI G k4 8 kd2_16, aI G k5 8 nd2_17, aI G k6 8 fw2_18, (n, .inr (1, [.ref n1, .ref n2, .ref n3, .ref n4, .ref n5, .ref n6, .ref n7, .int lo2_34, .int mi2_35, .int sd])), aI G n1 9 ht2_27, aI G n2 8 wm2_28, aI G n3 8 se2_29, aI G n4 8 cd2_30, aI G n5 8 sl2_31, aI G n6 8 od2_32, aI G n7 72 ow2_33, (b0, .inr (0, [.ref b01, .ref b02, .int en])), aI G b01 30 bs, aI G b02 30 bh] := hD
    have hv := hv ht2_27 wm2_28 se2_29 cd2_30 sl2_31 od2_32 ow2_33 lo2_34 mi2_35 hw
    refine lv_aload_n hx hb dX7_town_50 rfl (lv_at hl 2 rfl) ?_
    refine va_get (D := G.1) (ci := 7) (v := .ref b0) (C := RX7) (T := TX7) (N := 11) hx hb hts hinX7 hown hKK.1 hP 0 rfl rfl 7 (by decide) kl43 (fun _ h9 => h9) rfl dX7_town_51 ?_
    refine lv_iconst (v := 0) hx hb dX7_town_54 (by decide) ?_
    refine va_put (D := G.1) (ci := 0) (v := .int 0) (ty := .int) (C := RX0) (T := TX0) (N := 3) hx hb hts hinX0 tyX0 tyX0_ok nmX0 hown hKK.1 hP hD hS 25 rfl rfl 2 (by decide) kl94 (fun _ h9 => h9) rfl (by decide +kernel) rfl rfl (Nat.le_of_ble_eq_true rfl) dX7_town_55 (fun H locs hP hD hS => ?_)
    have hP : va_P G.1 vwCl [(h0, .inr (7, [.ref e0, .ref k, .ref t, .ref n, .ref j, .ref i0, .int kp, .ref b0, .ref s0, .ref q, .ref g])), (e0, .inr (5, [.ref e01, .int xl2_4, .int xf2_8, .int xg2_7, .int xa2_5, .int xt2_6, .int xr2_9, .int xn2_10])), aB G e01 400 xb, (t, .inr (6, [.int ns, .int np, .int fu, .int fd, .int fi, .ref t1, .ref t2, .ref t3, .ref t4, .ref t5, .ref t6])), aI G t1 9 sz_, aI G t2 9 pt, aI G t3 9 fh, aI G t4 8 kd, aI G t5 8 nd, aI G t6 8 fw, (k, .inr (6, [.int ns2_11, .int np2_15, .int fu2_19, .int fd2_20, .int fi2_21, .ref k1, .ref k2, .ref k3, .ref k4, .ref k5, .ref k6])), aI G k1 9 sz2_12, aI G k2 9 pt2_13, aI G k3 9 fh2_14, aI G k4 8 kd2_16, aI G k5 8 nd2_17, aI G k6 8 fw2_18, (n, .inr (1, [.ref n1, .ref n2, .ref n3, .ref n4, .ref n5, .ref n6, .ref n7, .int lo2_34, .int mi2_35, .int sd])), aI G n1 9 ht2_27, aI G n2 8 wm2_28, aI G n3 8 se2_29, aI G n4 8 cd2_30, aI G n5 8 sl2_31, aI G n6 8 od2_32, aI G n7 72 ow2_33, (b0, .inr (0, [.ref b01, .ref b02, .int 0])), aI G b01 30 bs, aI G b02 30 bh] H := hP
    have hD : va_D A [(h0, .inr (7, [.ref e0, .ref k, .ref t, .ref n, .ref j, .ref i0, .int kp, .ref b0, .ref s0, .ref q, .ref g])), (e0, .inr (5, [.ref e01, .int xl2_4, .int xf2_8, .int xg2_7, .int xa2_5, .int xt2_6, .int xr2_9, .int xn2_10])), aB G e01 400 xb, (t, .inr (6, [.int ns, .int np, .int fu, .int fd, .int fi, .ref t1, .ref t2, .ref t3, .ref t4, .ref t5, .ref t6])), aI G t1 9 sz_, aI G t2 9 pt, aI G t3 9 fh, aI G t4 8 kd, aI G t5 8 nd, aI G t6 8 fw, (k, .inr (6, [.int ns2_11, .int np2_15, .int fu2_19, .int fd2_20, .int fi2_21, .ref k1, .ref k2, .ref k3, .ref k4, .ref k5, .ref k6])), aI G k1 9 sz2_12, aI G k2 9 pt2_13, aI G k3 9 fh2_14, aI G k4 8 kd2_16, aI G k5 8 nd2_17, aI G k6 8 fw2_18, (n, .inr (1, [.ref n1, .ref n2, .ref n3, .ref n4, .ref n5, .ref n6, .ref n7, .int lo2_34, .int mi2_35, .int sd])), aI G n1 9 ht2_27, aI G n2 8 wm2_28, aI G n3 8 se2_29, aI G n4 8 cd2_30, aI G n5 8 sl2_31, aI G n6 8 od2_32, aI G n7 72 ow2_33, (b0, .inr (0, [.ref b01, .ref b02, .int 0])), aI G b01 30 bs, aI G b02 30 bh] := hD
    refine lv_aload_n hx hb dX7_town_58 rfl (lv_at hl 2 rfl) ?_
    refine lv_iconst (v := 0) hx hb dX7_town_59 (by decide) ?_
    refine va_put (D := G.1) (ci := 7) (v := .int 0) (ty := .int) (C := RX7) (T := TX7) (N := 11) hx hb hts hinX7 tyX7 tyX7_ok nmX7 hown hKK.1 hP hD hS 0 rfl rfl 6 (by decide) kl97 (fun _ h9 => h9) rfl (by decide +kernel) rfl rfl (Nat.le_of_ble_eq_true rfl) dX7_town_60 (fun H locs hP hD hS => ?_)
    have hP : va_P G.1 vwCl [(h0, .inr (7, [.ref e0, .ref k, .ref t, .ref n, .ref j, .ref i0, .int 0, .ref b0, .ref s0, .ref q, .ref g])), (e0, .inr (5, [.ref e01, .int xl2_4, .int xf2_8, .int xg2_7, .int xa2_5, .int xt2_6, .int xr2_9, .int xn2_10])), aB G e01 400 xb, (t, .inr (6, [.int ns, .int np, .int fu, .int fd, .int fi, .ref t1, .ref t2, .ref t3, .ref t4, .ref t5, .ref t6])), aI G t1 9 sz_, aI G t2 9 pt, aI G t3 9 fh, aI G t4 8 kd, aI G t5 8 nd, aI G t6 8 fw, (k, .inr (6, [.int ns2_11, .int np2_15, .int fu2_19, .int fd2_20, .int fi2_21, .ref k1, .ref k2, .ref k3, .ref k4, .ref k5, .ref k6])), aI G k1 9 sz2_12, aI G k2 9 pt2_13, aI G k3 9 fh2_14, aI G k4 8 kd2_16, aI G k5 8 nd2_17, aI G k6 8 fw2_18, (n, .inr (1, [.ref n1, .ref n2, .ref n3, .ref n4, .ref n5, .ref n6, .ref n7, .int lo2_34, .int mi2_35, .int sd])), aI G n1 9 ht2_27, aI G n2 8 wm2_28, aI G n3 8 se2_29, aI G n4 8 cd2_30, aI G n5 8 sl2_31, aI G n6 8 od2_32, aI G n7 72 ow2_33, (b0, .inr (0, [.ref b01, .ref b02, .int 0])), aI G b01 30 bs, aI G b02 30 bh] H := hP
    have hD : va_D A [(h0, .inr (7, [.ref e0, .ref k, .ref t, .ref n, .ref j, .ref i0, .int 0, .ref b0, .ref s0, .ref q, .ref g])), (e0, .inr (5, [.ref e01, .int xl2_4, .int xf2_8, .int xg2_7, .int xa2_5, .int xt2_6, .int xr2_9, .int xn2_10])), aB G e01 400 xb, (t, .inr (6, [.int ns, .int np, .int fu, .int fd, .int fi, .ref t1, .ref t2, .ref t3, .ref t4, .ref t5, .ref t6])), aI G t1 9 sz_, aI G t2 9 pt, aI G t3 9 fh, aI G t4 8 kd, aI G t5 8 nd, aI G t6 8 fw, (k, .inr (6, [.int ns2_11, .int np2_15, .int fu2_19, .int fd2_20, .int fi2_21, .ref k1, .ref k2, .ref k3, .ref k4, .ref k5, .ref k6])), aI G k1 9 sz2_12, aI G k2 9 pt2_13, aI G k3 9 fh2_14, aI G k4 8 kd2_16, aI G k5 8 nd2_17, aI G k6 8 fw2_18, (n, .inr (1, [.ref n1, .ref n2, .ref n3, .ref n4, .ref n5, .ref n6, .ref n7, .int lo2_34, .int mi2_35, .int sd])), aI G n1 9 ht2_27, aI G n2 8 wm2_28, aI G n3 8 se2_29, aI G n4 8 cd2_30, aI G n5 8 sl2_31, aI G n6 8 od2_32, aI G n7 72 ow2_33, (b0, .inr (0, [.ref b01, .ref b02, .int 0])), aI G b01 30 bs, aI G b02 30 bh] := hD
    refine lv_aload_n hx hb dX7_town_63 rfl (lv_at hl 2 rfl) ?_
    refine va_get (D := G.1) (ci := 7) (v := .ref k) (C := RX7) (T := TX7) (N := 11) hx hb hts hinX7 hown hKK.1 hP 0 rfl rfl 1 (by decide) kl19 (fun _ h9 => h9) rfl dX7_town_64 ?_
    refine va_get (D := G.1) (ci := 6) (v := .int ns2_11) (C := RX6) (T := TX6) (N := 11) hx hb hts hinX6 hown hKK.1 hP 10 rfl rfl 0 (by decide) kl100 (fun _ h9 => h9) rfl dX7_town_67 ?_
    exact x_iret (v := ns2_11) (xl2_4, xa2_5, xt2_6, xg2_7, xf2_8, xr2_9, xn2_10, ns2_11, sz2_12, pt2_13, fh2_14, np2_15, kd2_16, nd2_17, fw2_18, fu2_19, fd2_20, fi2_21, k, t, 0, ht2_27, wm2_28, se2_29, cd2_30, sl2_31, od2_32, ow2_33, lo2_34, mi2_35, 0) hQ hx hb hr hlocks hS dX7_town_70 hv hP hD
  · have hv := hv.2 hc_22
    refine lv_bipush (v := (-10)) hx hb dX7_town_16 (by decide) ?_
    refine lv_iload_n hx hb dX7_town_18 rfl (lv_at hl 0 rfl) ?_
    refine lv_isub hx hb dX7_town_19 ?_
    exact x_iret (v := ((-10) - r_3)) (xl2_4, xa2_5, xt2_6, xg2_7, xf2_8, xr2_9, xn2_10, ns2_11, sz2_12, pt2_13, fh2_14, np2_15, kd2_16, nd2_17, fw2_18, fu2_19, fd2_20, fi2_21, t, k, kp, ht, wm, se, cd, sl, od, ow, lo, mi, en) hQ hx hb hr hlocks hS dX7_town_20 hv hP hD
theorem v_X7_town (l : Launch) (G : Gt) (h0 e0 e01 t t1 t2 t3 t4 t5 t6 k k1 k2 k3 k4 k5 k6 n n1 n2 n3 n4 n5 n6 n7 b0 b01 b02 : Nat) (sz : Nat) (j : Nat) (i0 : Nat) (s0 : Nat) (q : Nat) (g : Nat) (kp : Int32) (xb : Nat → Int32) (xl : Int32) (xf : Int32) (xg : Int32) (xa : Int32) (xt : Int32) (xr : Int32) (xn : Int32) (ns : Int32) (np : Int32) (fu : Int32) (fd : Int32) (fi : Int32) (sz_ : Nat → Int32) (pt : Nat → Int32) (fh : Nat → Int32) (kd : Nat → Int32) (nd : Nat → Int32) (fw : Nat → Int32) (nsk : Int32) (npk : Int32) (fuk : Int32) (fdk : Int32) (fik : Int32) (sz_k : Nat → Int32) (ptk : Nat → Int32) (fhk : Nat → Int32) (kdk : Nat → Int32) (ndk : Nat → Int32) (fwk : Nat → Int32) (ht : Nat → Int32) (wm : Nat → Int32) (se : Nat → Int32) (cd : Nat → Int32) (sl : Nat → Int32) (od : Nat → Int32) (ow : Nat → Int32) (lo : Int32) (mi : Int32) (sd : Int32) (en : Int32) (bs : Nat → Int32) (bh : Nat → Int32) (B : Nat → Int) (L : Nat) (hp : CX B L xb xl) : ∃ (gB_1 : Nat → Int) (gL_2 : Nat), ((CX gB_1 gL_2 xb xl) ∧ (∀ (r_3 : Int32) (xl2_4 : Int32) (xa2_5 : Int32) (xt2_6 : Int32) (xg2_7 : Int32) (xf2_8 : Int32) (xr2_9 : Int32) (xn2_10 : Int32) (ns2_11 : Int32) (sz2_12 : Nat → Int32) (pt2_13 : Nat → Int32) (fh2_14 : Nat → Int32) (np2_15 : Int32) (kd2_16 : Nat → Int32) (nd2_17 : Nat → Int32) (fw2_18 : Nat → Int32) (fu2_19 : Int32) (fd2_20 : Int32) (fi2_21 : Int32), (xl2_4 = 0 ∧ CI (paT gB_1 gL_2) r_3 xf2_8 ns2_11 np2_15 fu2_19 fd2_20 fi2_21 sz2_12 pt2_13 fh2_14 kd2_16 nd2_17 fw2_18) → ((r_3 = 0 → ∃ (gT_23 : Nat → Nat → Int) (gNs_24 : Nat) (gNp_25 : Nat), ((TOK gT_23 gNs_24 gNp_25 ∧ CT gT_23 gNs_24 gNp_25 ns2_11 np2_15 fu2_19 fd2_20 fi2_21 sz2_12 pt2_13 kd2_16 nd2_17 ∧ (∀ b, b < gNs_24 → (fh2_14 b).toInt = gT_23 5 b) ∧ (∀ q, q < gNp_25 → (fw2_18 q).toInt = gT_23 6 q)) ∧ (∀ (ht2_27 : Nat → Int32) (wm2_28 : Nat → Int32) (se2_29 : Nat → Int32) (cd2_30 : Nat → Int32) (sl2_31 : Nat → Int32) (od2_32 : Nat → Int32) (ow2_33 : Nat → Int32) (lo2_34 : Int32) (mi2_35 : Int32), (CN gNs_24 gNp_25 (zBeg gT_23 sd.toInt) ht2_27 wm2_28 se2_29 cd2_30 sl2_31 od2_32 ow2_33 lo2_34 mi2_35 sd) → ((xl2_4 = 0 ∧ ((∃ f, paT B L = .inl f ∧ ns2_11 = -10 - nI f.1 ∧ xf2_8 = nI f.2 ∧ k = t ∧ t = k ∧ (0 : Int32) = kp ∧ (0 : Int32) = en ∧ ht2_27 = ht ∧ wm2_28 = wm ∧ se2_29 = se ∧ cd2_30 = cd ∧ sl2_31 = sl ∧ od2_32 = od ∧ ow2_33 = ow ∧ lo2_34 = lo ∧ mi2_35 = mi) ∨ (∃ z_, paT B L = .inr z_ ∧ ns2_11 = nI z_.1 ∧ xf2_8 = -1 ∧ k = k ∧ t = t ∧ (0 : Int32) = 0 ∧ (0 : Int32) = 0 ∧ CT z_.2.2.1 z_.1 z_.2.1 ns2_11 np2_15 fu2_19 fd2_20 fi2_21 sz2_12 pt2_13 kd2_16 nd2_17 ∧ CN z_.1 z_.2.1 (zBeg z_.2.2.1 sd.toInt) ht2_27 wm2_28 se2_29 cd2_30 sl2_31 od2_32 ow2_33 lo2_34 mi2_35 sd))))))) ∧ (¬ (r_3 = 0) → (xl2_4 = 0 ∧ ((∃ f, paT B L = .inl f ∧ ((-10) - r_3) = -10 - nI f.1 ∧ xf2_8 = nI f.2 ∧ t = t ∧ k = k ∧ kp = kp ∧ en = en ∧ ht = ht ∧ wm = wm ∧ se = se ∧ cd = cd ∧ sl = sl ∧ od = od ∧ ow = ow ∧ lo = lo ∧ mi = mi) ∨ (∃ z_, paT B L = .inr z_ ∧ ((-10) - r_3) = nI z_.1 ∧ xf2_8 = -1 ∧ t = k ∧ k = t ∧ kp = 0 ∧ en = 0 ∧ CT z_.2.2.1 z_.1 z_.2.1 ns2_11 np2_15 fu2_19 fd2_20 fi2_21 sz2_12 pt2_13 kd2_16 nd2_17 ∧ CN z_.1 z_.2.1 (zBeg z_.2.2.1 sd.toInt) ht wm se cd sl od ow lo mi sd))))))) := by
  have hX : CX B L xb xl := hp
  refine ⟨B, L, hX, fun r xl2 xa2 xt2 xg2 xf2 xr2 xn2 ns2 sz2 pt2 fh2 np2 kd2 nd2 fw2 fu2 fd2 fi2 h2 => ?_⟩
  obtain ⟨hl, hI⟩ := h2
  cases q : paT B L with
  | inl f =>
    rw [q] at hI
    obtain ⟨i1, i2, i3, i4⟩ := hI
    have hne : ¬ r = 0 := by rw [i3]; exact nI_n0 (by omega) (by omega)
    exact ⟨fun z => absurd z hne, fun _ => ⟨hl, Or.inl ⟨f, rfl, by rw [i3], i4, rfl, rfl, rfl, rfl, rfl, rfl, rfl, rfl, rfl, rfl, rfl, rfl, rfl⟩⟩⟩
  | inr z_ =>
    rw [q] at hI
    obtain ⟨i1, i2, i3⟩ := hI
    have hk := paT_ok q
    refine ⟨fun _ => ⟨z_.2.2.1, z_.1, z_.2.1, ⟨hk.1, i3.1, i3.2.1, i3.2.2⟩, fun b1 b2 b3 b4 b5 b6 b7 b8 b9 hN => ⟨hl, Or.inr ⟨z_, rfl, i3.1.1, i2, rfl, rfl, rfl, rfl, i3.1, hN⟩⟩⟩, fun z => absurd i1 z⟩
theorem k_X7_town (l : Launch) (G : Gt) (h0 e0 e01 t t1 t2 t3 t4 t5 t6 k k1 k2 k3 k4 k5 k6 n n1 n2 n3 n4 n5 n6 n7 b0 b01 b02 : Nat) (sz : Nat) (j : Nat) (i0 : Nat) (s0 : Nat) (q : Nat) (g : Nat) (kp : Int32) (xb : Nat → Int32) (xl : Int32) (xf : Int32) (xg : Int32) (xa : Int32) (xt : Int32) (xr : Int32) (xn : Int32) (ns : Int32) (np : Int32) (fu : Int32) (fd : Int32) (fi : Int32) (sz_ : Nat → Int32) (pt : Nat → Int32) (fh : Nat → Int32) (kd : Nat → Int32) (nd : Nat → Int32) (fw : Nat → Int32) (nsk : Int32) (npk : Int32) (fuk : Int32) (fdk : Int32) (fik : Int32) (sz_k : Nat → Int32) (ptk : Nat → Int32) (fhk : Nat → Int32) (kdk : Nat → Int32) (ndk : Nat → Int32) (fwk : Nat → Int32) (ht : Nat → Int32) (wm : Nat → Int32) (se : Nat → Int32) (cd : Nat → Int32) (sl : Nat → Int32) (od : Nat → Int32) (ow : Nat → Int32) (lo : Int32) (mi : Int32) (sd : Int32) (en : Int32) (bs : Nat → Int32) (bh : Nat → Int32) (B : Nat → Int) (L : Nat) (hp : CX B L xb xl) : MetI l yX7_town wsX7_town 9 194 G [.ref h0] [(h0, .inr (7, [.ref e0, .ref t, .ref k, .ref n, .ref j, .ref i0, .int kp, .ref b0, .ref s0, .ref q, .ref g])), (e0, .inr (5, [.ref e01, .int xl, .int xf, .int xg, .int xa, .int xt, .int xr, .int xn])), aB G e01 400 xb, (t, .inr (6, [.int ns, .int np, .int fu, .int fd, .int fi, .ref t1, .ref t2, .ref t3, .ref t4, .ref t5, .ref t6])), aI G t1 9 sz_, aI G t2 9 pt, aI G t3 9 fh, aI G t4 8 kd, aI G t5 8 nd, aI G t6 8 fw, (k, .inr (6, [.int nsk, .int npk, .int fuk, .int fdk, .int fik, .ref k1, .ref k2, .ref k3, .ref k4, .ref k5, .ref k6])), aI G k1 9 sz_k, aI G k2 9 ptk, aI G k3 9 fhk, aI G k4 8 kdk, aI G k5 8 ndk, aI G k6 8 fwk, (n, .inr (1, [.ref n1, .ref n2, .ref n3, .ref n4, .ref n5, .ref n6, .ref n7, .int lo, .int mi, .int sd])), aI G n1 9 ht, aI G n2 8 wm, aI G n3 8 se, aI G n4 8 cd, aI G n5 8 sl, aI G n6 8 od, aI G n7 72 ow, (b0, .inr (0, [.ref b01, .ref b02, .int en])), aI G b01 30 bs, aI G b02 30 bh] sz (fun (r : Int32) (u : (Int32) × (Int32) × (Int32) × (Int32) × (Int32) × (Int32) × (Int32) × (Int32) × (Nat → Int32) × (Nat → Int32) × (Nat → Int32) × (Int32) × (Nat → Int32) × (Nat → Int32) × (Nat → Int32) × (Int32) × (Int32) × (Int32) × (Nat) × (Nat) × (Int32) × (Nat → Int32) × (Nat → Int32) × (Nat → Int32) × (Nat → Int32) × (Nat → Int32) × (Nat → Int32) × (Nat → Int32) × (Int32) × (Int32) × (Int32)) => (u.1 = 0 ∧ ((∃ f, paT B L = .inl f ∧ r = -10 - nI f.1 ∧ u.2.2.2.2.1 = nI f.2 ∧ u.2.2.2.2.2.2.2.2.2.2.2.2.2.2.2.2.2.2.1 = t ∧ u.2.2.2.2.2.2.2.2.2.2.2.2.2.2.2.2.2.2.2.1 = k ∧ u.2.2.2.2.2.2.2.2.2.2.2.2.2.2.2.2.2.2.2.2.1 = kp ∧ u.2.2.2.2.2.2.2.2.2.2.2.2.2.2.2.2.2.2.2.2.2.2.2.2.2.2.2.2.2.2 = en ∧ u.2.2.2.2.2.2.2.2.2.2.2.2.2.2.2.2.2.2.2.2.2.1 = ht ∧ u.2.2.2.2.2.2.2.2.2.2.2.2.2.2.2.2.2.2.2.2.2.2.1 = wm ∧ u.2.2.2.2.2.2.2.2.2.2.2.2.2.2.2.2.2.2.2.2.2.2.2.1 = se ∧ u.2.2.2.2.2.2.2.2.2.2.2.2.2.2.2.2.2.2.2.2.2.2.2.2.1 = cd ∧ u.2.2.2.2.2.2.2.2.2.2.2.2.2.2.2.2.2.2.2.2.2.2.2.2.2.1 = sl ∧ u.2.2.2.2.2.2.2.2.2.2.2.2.2.2.2.2.2.2.2.2.2.2.2.2.2.2.1 = od ∧ u.2.2.2.2.2.2.2.2.2.2.2.2.2.2.2.2.2.2.2.2.2.2.2.2.2.2.2.1 = ow ∧ u.2.2.2.2.2.2.2.2.2.2.2.2.2.2.2.2.2.2.2.2.2.2.2.2.2.2.2.2.1 = lo ∧ u.2.2.2.2.2.2.2.2.2.2.2.2.2.2.2.2.2.2.2.2.2.2.2.2.2.2.2.2.2.1 = mi) ∨ (∃ z_, paT B L = .inr z_ ∧ r = nI z_.1 ∧ u.2.2.2.2.1 = -1 ∧ u.2.2.2.2.2.2.2.2.2.2.2.2.2.2.2.2.2.2.1 = k ∧ u.2.2.2.2.2.2.2.2.2.2.2.2.2.2.2.2.2.2.2.1 = t ∧ u.2.2.2.2.2.2.2.2.2.2.2.2.2.2.2.2.2.2.2.2.1 = 0 ∧ u.2.2.2.2.2.2.2.2.2.2.2.2.2.2.2.2.2.2.2.2.2.2.2.2.2.2.2.2.2.2 = 0 ∧ CT z_.2.2.1 z_.1 z_.2.1 u.2.2.2.2.2.2.2.1 u.2.2.2.2.2.2.2.2.2.2.2.1 u.2.2.2.2.2.2.2.2.2.2.2.2.2.2.2.1 u.2.2.2.2.2.2.2.2.2.2.2.2.2.2.2.2.1 u.2.2.2.2.2.2.2.2.2.2.2.2.2.2.2.2.2.1 u.2.2.2.2.2.2.2.2.1 u.2.2.2.2.2.2.2.2.2.1 u.2.2.2.2.2.2.2.2.2.2.2.2.1 u.2.2.2.2.2.2.2.2.2.2.2.2.2.1 ∧ CN z_.1 z_.2.1 (zBeg z_.2.2.1 sd.toInt) u.2.2.2.2.2.2.2.2.2.2.2.2.2.2.2.2.2.2.2.2.2.1 u.2.2.2.2.2.2.2.2.2.2.2.2.2.2.2.2.2.2.2.2.2.2.1 u.2.2.2.2.2.2.2.2.2.2.2.2.2.2.2.2.2.2.2.2.2.2.2.1 u.2.2.2.2.2.2.2.2.2.2.2.2.2.2.2.2.2.2.2.2.2.2.2.2.1 u.2.2.2.2.2.2.2.2.2.2.2.2.2.2.2.2.2.2.2.2.2.2.2.2.2.1 u.2.2.2.2.2.2.2.2.2.2.2.2.2.2.2.2.2.2.2.2.2.2.2.2.2.2.1 u.2.2.2.2.2.2.2.2.2.2.2.2.2.2.2.2.2.2.2.2.2.2.2.2.2.2.2.1 u.2.2.2.2.2.2.2.2.2.2.2.2.2.2.2.2.2.2.2.2.2.2.2.2.2.2.2.2.1 u.2.2.2.2.2.2.2.2.2.2.2.2.2.2.2.2.2.2.2.2.2.2.2.2.2.2.2.2.2.1 sd)))) (fun (u : (Int32) × (Int32) × (Int32) × (Int32) × (Int32) × (Int32) × (Int32) × (Int32) × (Nat → Int32) × (Nat → Int32) × (Nat → Int32) × (Int32) × (Nat → Int32) × (Nat → Int32) × (Nat → Int32) × (Int32) × (Int32) × (Int32) × (Nat) × (Nat) × (Int32) × (Nat → Int32) × (Nat → Int32) × (Nat → Int32) × (Nat → Int32) × (Nat → Int32) × (Nat → Int32) × (Nat → Int32) × (Int32) × (Int32) × (Int32)) => [(h0, .inr (7, [.ref e0, .ref u.2.2.2.2.2.2.2.2.2.2.2.2.2.2.2.2.2.2.1, .ref u.2.2.2.2.2.2.2.2.2.2.2.2.2.2.2.2.2.2.2.1, .ref n, .ref j, .ref i0, .int u.2.2.2.2.2.2.2.2.2.2.2.2.2.2.2.2.2.2.2.2.1, .ref b0, .ref s0, .ref q, .ref g])), (e0, .inr (5, [.ref e01, .int u.1, .int u.2.2.2.2.1, .int u.2.2.2.1, .int u.2.1, .int u.2.2.1, .int u.2.2.2.2.2.1, .int u.2.2.2.2.2.2.1])), aB G e01 400 xb, (t, .inr (6, [.int ns, .int np, .int fu, .int fd, .int fi, .ref t1, .ref t2, .ref t3, .ref t4, .ref t5, .ref t6])), aI G t1 9 sz_, aI G t2 9 pt, aI G t3 9 fh, aI G t4 8 kd, aI G t5 8 nd, aI G t6 8 fw, (k, .inr (6, [.int u.2.2.2.2.2.2.2.1, .int u.2.2.2.2.2.2.2.2.2.2.2.1, .int u.2.2.2.2.2.2.2.2.2.2.2.2.2.2.2.1, .int u.2.2.2.2.2.2.2.2.2.2.2.2.2.2.2.2.1, .int u.2.2.2.2.2.2.2.2.2.2.2.2.2.2.2.2.2.1, .ref k1, .ref k2, .ref k3, .ref k4, .ref k5, .ref k6])), aI G k1 9 u.2.2.2.2.2.2.2.2.1, aI G k2 9 u.2.2.2.2.2.2.2.2.2.1, aI G k3 9 u.2.2.2.2.2.2.2.2.2.2.1, aI G k4 8 u.2.2.2.2.2.2.2.2.2.2.2.2.1, aI G k5 8 u.2.2.2.2.2.2.2.2.2.2.2.2.2.1, aI G k6 8 u.2.2.2.2.2.2.2.2.2.2.2.2.2.2.1, (n, .inr (1, [.ref n1, .ref n2, .ref n3, .ref n4, .ref n5, .ref n6, .ref n7, .int u.2.2.2.2.2.2.2.2.2.2.2.2.2.2.2.2.2.2.2.2.2.2.2.2.2.2.2.2.1, .int u.2.2.2.2.2.2.2.2.2.2.2.2.2.2.2.2.2.2.2.2.2.2.2.2.2.2.2.2.2.1, .int sd])), aI G n1 9 u.2.2.2.2.2.2.2.2.2.2.2.2.2.2.2.2.2.2.2.2.2.1, aI G n2 8 u.2.2.2.2.2.2.2.2.2.2.2.2.2.2.2.2.2.2.2.2.2.2.1, aI G n3 8 u.2.2.2.2.2.2.2.2.2.2.2.2.2.2.2.2.2.2.2.2.2.2.2.1, aI G n4 8 u.2.2.2.2.2.2.2.2.2.2.2.2.2.2.2.2.2.2.2.2.2.2.2.2.1, aI G n5 8 u.2.2.2.2.2.2.2.2.2.2.2.2.2.2.2.2.2.2.2.2.2.2.2.2.2.1, aI G n6 8 u.2.2.2.2.2.2.2.2.2.2.2.2.2.2.2.2.2.2.2.2.2.2.2.2.2.2.1, aI G n7 72 u.2.2.2.2.2.2.2.2.2.2.2.2.2.2.2.2.2.2.2.2.2.2.2.2.2.2.2.1, (b0, .inr (0, [.ref b01, .ref b02, .int u.2.2.2.2.2.2.2.2.2.2.2.2.2.2.2.2.2.2.2.2.2.2.2.2.2.2.2.2.2.2])), aI G b01 30 bs, aI G b02 30 bh]) :=
  c_X7_town l G h0 e0 e01 t t1 t2 t3 t4 t5 t6 k k1 k2 k3 k4 k5 k6 n n1 n2 n3 n4 n5 n6 n7 b0 b01 b02 sz j i0 s0 q g kp xb xl xf xg xa xt xr xn ns np fu fd fi sz_ pt fh kd nd fw nsk npk fuk fdk fik sz_k ptk fhk kdk ndk fwk ht wm se cd sl od ow lo mi sd en bs bh B L (v_X7_town l G h0 e0 e01 t t1 t2 t3 t4 t5 t6 k k1 k2 k3 k4 k5 k6 n n1 n2 n3 n4 n5 n6 n7 b0 b01 b02 sz j i0 s0 q g kp xb xl xf xg xa xt xr xn ns np fu fd fi sz_ pt fh kd nd fw nsk npk fuk fdk fik sz_k ptk fhk kdk ndk fwk ht wm se cd sl od ow lo mi sd en bs bh B L hp)

set_option maxHeartbeats 4000000 in
set_option maxRecDepth 100000 in
theorem c_X7_fault (l : Launch) (G : Gt) (h0 e0 e01 : Nat) (sz : Nat) (t : Nat) (k : Nat) (n : Nat) (j : Nat) (i0 : Nat) (b0 : Nat) (s0 : Nat) (q : Nat) (g : Nat) (kp : Int32) (xb : Nat → Int32) (xl : Int32) (xf : Int32) (xg : Int32) (xa : Int32) (xt : Int32) (xr : Int32) (xn : Int32) (hv : (xf : Int32) = xf) : MetI l yX7_fault wsX7_fault 0 0 G [.ref h0] [(h0, .inr (7, [.ref e0, .ref t, .ref k, .ref n, .ref j, .ref i0, .int kp, .ref b0, .ref s0, .ref q, .ref g])), (e0, .inr (5, [.ref e01, .int xl, .int xf, .int xg, .int xa, .int xt, .int xr, .int xn])), aB G e01 400 xb] sz (fun (r : Int32) (_ : Unit) => (r : Int32) = xf) (fun (_ : Unit) => [(h0, .inr (7, [.ref e0, .ref t, .ref k, .ref n, .ref j, .ref i0, .int kp, .ref b0, .ref s0, .ref q, .ref g])), (e0, .inr (5, [.ref e01, .int xl, .int xf, .int xg, .int xa, .int xt, .int xr, .int xn])), aB G e01 400 xb]) := by
  refine x_startI (cc := cX7_fault) (maxL := 1) (ret := (some .int)) (by decide) rfl (Nat.le_of_ble_eq_true rfl) ?_
  intro p e s m args below meth c A R Q ls hRf hRl hQ C hP hD hS hA hSS hl
  obtain ⟨hx, hb, hr, hml, hown, hts, hlocks, hKK⟩ := C
  have hown : s.vm.findClass RX7 = some m.cls := hown
  have hl : lv_has ls 1 [(0, .ref h0)] := hl
  have hinX5 : ∀ w ∈ u_ws RX5 TX5 8, w ∈ wsX7_fault := by decide +kernel
  have hinX7 : ∀ w ∈ u_ws RX7 TX7 11, w ∈ wsX7_fault := by decide +kernel
  have kl10 := hts (.fieldLink RX7 10 "WarmStones" "text" "LWarmStones$Text;") (by decide +kernel)
  have kl103 := hts (.fieldLink RX7 103 "WarmStones$Text" "faultByte" "I") (by decide +kernel)
  refine lv_aload_n hx hb dX7_fault_0 rfl (lv_at hl 0 rfl) ?_
  refine va_get (D := G.1) (ci := 7) (v := .ref e0) (C := RX7) (T := TX7) (N := 11) hx hb hts hinX7 hown hKK.1 hP 0 rfl rfl 0 (by decide) kl10 (fun _ h9 => h9) rfl dX7_fault_1 ?_
  refine va_get (D := G.1) (ci := 5) (v := .int xf) (C := RX5) (T := TX5) (N := 8) hx hb hts hinX5 hown hKK.1 hP 1 rfl rfl 2 (by decide) kl103 (fun _ h9 => h9) rfl dX7_fault_4 ?_
  exact x_iret (v := xf) () hQ hx hb hr hlocks hS dX7_fault_7 hv hP hD
theorem v_X7_fault (l : Launch) (G : Gt) (h0 e0 e01 : Nat) (sz : Nat) (t : Nat) (k : Nat) (n : Nat) (j : Nat) (i0 : Nat) (b0 : Nat) (s0 : Nat) (q : Nat) (g : Nat) (kp : Int32) (xb : Nat → Int32) (xl : Int32) (xf : Int32) (xg : Int32) (xa : Int32) (xt : Int32) (xr : Int32) (xn : Int32) : (xf : Int32) = xf := by
  rfl
theorem k_X7_fault (l : Launch) (G : Gt) (h0 e0 e01 : Nat) (sz : Nat) (t : Nat) (k : Nat) (n : Nat) (j : Nat) (i0 : Nat) (b0 : Nat) (s0 : Nat) (q : Nat) (g : Nat) (kp : Int32) (xb : Nat → Int32) (xl : Int32) (xf : Int32) (xg : Int32) (xa : Int32) (xt : Int32) (xr : Int32) (xn : Int32) : MetI l yX7_fault wsX7_fault 0 0 G [.ref h0] [(h0, .inr (7, [.ref e0, .ref t, .ref k, .ref n, .ref j, .ref i0, .int kp, .ref b0, .ref s0, .ref q, .ref g])), (e0, .inr (5, [.ref e01, .int xl, .int xf, .int xg, .int xa, .int xt, .int xr, .int xn])), aB G e01 400 xb] sz (fun (r : Int32) (_ : Unit) => (r : Int32) = xf) (fun (_ : Unit) => [(h0, .inr (7, [.ref e0, .ref t, .ref k, .ref n, .ref j, .ref i0, .int kp, .ref b0, .ref s0, .ref q, .ref g])), (e0, .inr (5, [.ref e01, .int xl, .int xf, .int xg, .int xa, .int xt, .int xr, .int xn])), aB G e01 400 xb]) :=
  c_X7_fault l G h0 e0 e01 sz t k n j i0 b0 s0 q g kp xb xl xf xg xa xt xr xn (v_X7_fault l G h0 e0 e01 sz t k n j i0 b0 s0 q g kp xb xl xf xg xa xt xr xn)

set_option maxHeartbeats 4000000 in
set_option maxRecDepth 100000 in
theorem c_X7_told (l : Launch) (G : Gt) (h0 t t1 t2 t3 t4 t5 t6 e0 e01 n n1 n2 n3 n4 n5 n6 n7 b0 b01 b02 : Nat) (sz : Nat) (k : Nat) (j : Nat) (i0 : Nat) (s0 : Nat) (q : Nat) (g : Nat) (kp : Int32) (ns : Int32) (np : Int32) (fu : Int32) (fd : Int32) (fi : Int32) (sz_ : Nat → Int32) (pt : Nat → Int32) (fh : Nat → Int32) (kd : Nat → Int32) (nd : Nat → Int32) (fw : Nat → Int32) (xb : Nat → Int32) (xl : Int32) (xf : Int32) (xg : Int32) (xa : Int32) (xt : Int32) (xr : Int32) (xn : Int32) (ht : Nat → Int32) (wm : Nat → Int32) (se : Nat → Int32) (cd : Nat → Int32) (sl : Nat → Int32) (od : Nat → Int32) (ow : Nat → Int32) (lo : Int32) (mi : Int32) (sd : Int32) (en : Int32) (bs : Nat → Int32) (bh : Nat → Int32) (x : Int32) (T : Nat → Nat → Int) (Ns : Nat) (Np : Nat) (v : Nat → Int) (M : Int) (hv : (x = 0 → ns.toInt64.toInt = aTold T Ns Np v xl.toInt en.toInt x.toInt) ∧ (x = 1 → np.toInt64.toInt = aTold T Ns Np v xl.toInt en.toInt x.toInt) ∧ (x = 2 → xl.toInt64.toInt = aTold T Ns Np v xl.toInt en.toInt x.toInt) ∧ (x = 3 → mi.toInt64.toInt = aTold T Ns Np v xl.toInt en.toInt x.toInt) ∧ (x = 4 → lo.toInt64.toInt = aTold T Ns Np v xl.toInt en.toInt x.toInt) ∧ (x = 5 → fu.toInt64.toInt = aTold T Ns Np v xl.toInt en.toInt x.toInt) ∧ (x = 6 → fd.toInt64.toInt = aTold T Ns Np v xl.toInt en.toInt x.toInt) ∧ (x = 7 → fi.toInt64.toInt = aTold T Ns Np v xl.toInt en.toInt x.toInt) ∧ (x = 8 → en.toInt64.toInt = aTold T Ns Np v xl.toInt en.toInt x.toInt) ∧ (x = 9 → ∃ (gv_2 : Nat → Int) (gof_3 : Nat) (gnn_4 : Nat), ((SumP cd gv_2 gof_3 gnn_4 8) ∧ (∀ (r_5 : Int32), (r_5.toInt = zSum gv_2 gof_3 gnn_4) → (r_5.toInt64.toInt = aTold T Ns Np v xl.toInt en.toInt x.toInt)))) ∧ (x = 10 → ∃ (gv_6 : Nat → Int) (gof_7 : Nat) (gnn_8 : Nat), ((SumP ht gv_6 gof_7 gnn_8 9) ∧ (∀ (r_9 : Int32), (r_9.toInt = zSum gv_6 gof_7 gnn_8) → (∃ (gv_10 : Nat → Int) (gof_11 : Nat) (gnn_12 : Nat), ((SumP wm gv_10 gof_11 gnn_12 8) ∧ (∀ (r_13 : Int32), (r_13.toInt = zSum gv_10 gof_11 gnn_12) → (((r_9 + r_13).toInt64).toInt = aTold T Ns Np v xl.toInt en.toInt x.toInt))))))) ∧ (¬ x = 0 ∧ ¬ x = 1 ∧ ¬ x = 2 ∧ ¬ x = 3 ∧ ¬ x = 4 ∧ ¬ x = 5 ∧ ¬ x = 6 ∧ ¬ x = 7 ∧ ¬ x = 8 ∧ ¬ x = 9 ∧ ¬ x = 10 → ((-1000000002) : Int64).toInt = aTold T Ns Np v xl.toInt en.toInt x.toInt)) : MetL l yX7_told wsX7_told 1 25 G [.ref h0, .int x] [(h0, .inr (7, [.ref e0, .ref t, .ref k, .ref n, .ref j, .ref i0, .int kp, .ref b0, .ref s0, .ref q, .ref g])), (t, .inr (6, [.int ns, .int np, .int fu, .int fd, .int fi, .ref t1, .ref t2, .ref t3, .ref t4, .ref t5, .ref t6])), aI G t1 9 sz_, aI G t2 9 pt, aI G t3 9 fh, aI G t4 8 kd, aI G t5 8 nd, aI G t6 8 fw, (e0, .inr (5, [.ref e01, .int xl, .int xf, .int xg, .int xa, .int xt, .int xr, .int xn])), aB G e01 400 xb, (n, .inr (1, [.ref n1, .ref n2, .ref n3, .ref n4, .ref n5, .ref n6, .ref n7, .int lo, .int mi, .int sd])), aI G n1 9 ht, aI G n2 8 wm, aI G n3 8 se, aI G n4 8 cd, aI G n5 8 sl, aI G n6 8 od, aI G n7 72 ow, (b0, .inr (0, [.ref b01, .ref b02, .int en])), aI G b01 30 bs, aI G b02 30 bh] sz (fun (r : Int64) (_ : Unit) => r.toInt = aTold T Ns Np v xl.toInt en.toInt x.toInt) (fun (_ : Unit) => [(h0, .inr (7, [.ref e0, .ref t, .ref k, .ref n, .ref j, .ref i0, .int kp, .ref b0, .ref s0, .ref q, .ref g])), (t, .inr (6, [.int ns, .int np, .int fu, .int fd, .int fi, .ref t1, .ref t2, .ref t3, .ref t4, .ref t5, .ref t6])), aI G t1 9 sz_, aI G t2 9 pt, aI G t3 9 fh, aI G t4 8 kd, aI G t5 8 nd, aI G t6 8 fw, (e0, .inr (5, [.ref e01, .int xl, .int xf, .int xg, .int xa, .int xt, .int xr, .int xn])), aB G e01 400 xb, (n, .inr (1, [.ref n1, .ref n2, .ref n3, .ref n4, .ref n5, .ref n6, .ref n7, .int lo, .int mi, .int sd])), aI G n1 9 ht, aI G n2 8 wm, aI G n3 8 se, aI G n4 8 cd, aI G n5 8 sl, aI G n6 8 od, aI G n7 72 ow, (b0, .inr (0, [.ref b01, .ref b02, .int en])), aI G b01 30 bs, aI G b02 30 bh]) := by
  refine x_startL (cc := cX7_told) (maxL := 2) (ret := (some .long)) (by decide) rfl (Nat.le_of_ble_eq_true rfl) ?_
  intro p e s m args below meth c A R Q ls hRf hRl hQ C hP hD hS hA hSS hl
  obtain ⟨hx, hb, hr, hml, hown, hts, hlocks, hKK⟩ := C
  have hown : s.vm.findClass RX7 = some m.cls := hown
  have hl : lv_has ls 2 [(0, .ref h0), (1, .int x)] := hl
  have hinX0 : ∀ w ∈ u_ws RX0 TX0 3, w ∈ wsX7_told := by decide +kernel
  have hinX1 : ∀ w ∈ u_ws RX1 TX1 10, w ∈ wsX7_told := by decide +kernel
  have hinX5 : ∀ w ∈ u_ws RX5 TX5 8, w ∈ wsX7_told := by decide +kernel
  have hinX6 : ∀ w ∈ u_ws RX6 TX6 11, w ∈ wsX7_told := by decide +kernel
  have hinX7 : ∀ w ∈ u_ws RX7 TX7 11, w ∈ wsX7_told := by decide +kernel
  have kl10 := hts (.fieldLink RX7 10 "WarmStones" "text" "LWarmStones$Text;") (by decide +kernel)
  have kl100 := hts (.fieldLink RX7 100 "WarmStones$Town" "stones" "I") (by decide +kernel)
  have kl106 := hts (.fieldLink RX7 106 "WarmStones$Town" "persons" "I") (by decide +kernel)
  have kl109 := hts (.fieldLink RX7 109 "WarmStones$Night" "minute" "I") (by decide +kernel)
  have kl112 := hts (.fieldLink RX7 112 "WarmStones$Night" "lost" "I") (by decide +kernel)
  have kl115 := hts (.fieldLink RX7 115 "WarmStones$Town" "frostStanding" "I") (by decide +kernel)
  have kl118 := hts (.fieldLink RX7 118 "WarmStones$Town" "frostSitting" "I") (by decide +kernel)
  have kl121 := hts (.fieldLink RX7 121 "WarmStones$Town" "fine" "I") (by decide +kernel)
  have kl124 := hts (.fieldLink RX7 124 "WarmStones$Night" "cold" "[I") (by decide +kernel)
  have kl132 := hts (.fieldLink RX7 132 "WarmStones$Night" "heat" "[I") (by decide +kernel)
  have kl135 := hts (.fieldLink RX7 135 "WarmStones$Night" "warmth" "[I") (by decide +kernel)
  have kl138 := hts (.constantLong RX7 138 (-1000000002)) (by decide +kernel)
  have kl19 := hts (.fieldLink RX7 19 "WarmStones" "town" "LWarmStones$Town;") (by decide +kernel)
  have kl29 := hts (.fieldLink RX7 29 "WarmStones" "night" "LWarmStones$Night;") (by decide +kernel)
  have kl43 := hts (.fieldLink RX7 43 "WarmStones" "book" "LWarmStones$Book;") (by decide +kernel)
  have kl82 := hts (.fieldLink RX7 82 "WarmStones$Text" "length" "I") (by decide +kernel)
  have kl94 := hts (.fieldLink RX7 94 "WarmStones$Book" "entries" "I") (by decide +kernel)
  refine lv_iload_n hx hb dX7_told_0 rfl (lv_at hl 1 rfl) ?_
  by_cases hk_10 : x = 0
  · have hv := hv.1 hk_10
    refine lv_tableIn (off := 59) (tgt := 60) hx hb dX7_told_1 (by rw [hk_10]; decide) (by rw [hk_10]; decide) (by rw [hk_10]; decide) (by decide) ?_
    refine lv_aload_n hx hb dX7_told_60 rfl (lv_at hl 0 rfl) ?_
    refine va_get (D := G.1) (ci := 7) (v := .ref t) (C := RX7) (T := TX7) (N := 11) hx hb hts hinX7 hown hKK.1 hP 0 rfl rfl 1 (by decide) kl19 (fun _ h9 => h9) rfl dX7_told_61 ?_
    refine va_get (D := G.1) (ci := 6) (v := .int ns) (C := RX6) (T := TX6) (N := 11) hx hb hts hinX6 hown hKK.1 hP 1 rfl rfl 0 (by decide) kl100 (fun _ h9 => h9) rfl dX7_told_64 ?_
    refine lv_i2l hx hb dX7_told_67 rfl ?_
    exact x_lret (v := ns.toInt64) () hQ hx hb hr hlocks hS dX7_told_68 hv hP hD
  replace hv := hv.2
  by_cases hk_11 : x = 1
  · have hv := hv.1 hk_11
    refine lv_tableIn (off := 68) (tgt := 69) hx hb dX7_told_1 (by rw [hk_11]; decide) (by rw [hk_11]; decide) (by rw [hk_11]; decide) (by decide) ?_
    refine lv_aload_n hx hb dX7_told_69 rfl (lv_at hl 0 rfl) ?_
    refine va_get (D := G.1) (ci := 7) (v := .ref t) (C := RX7) (T := TX7) (N := 11) hx hb hts hinX7 hown hKK.1 hP 0 rfl rfl 1 (by decide) kl19 (fun _ h9 => h9) rfl dX7_told_70 ?_
    refine va_get (D := G.1) (ci := 6) (v := .int np) (C := RX6) (T := TX6) (N := 11) hx hb hts hinX6 hown hKK.1 hP 1 rfl rfl 1 (by decide) kl106 (fun _ h9 => h9) rfl dX7_told_73 ?_
    refine lv_i2l hx hb dX7_told_76 rfl ?_
    exact x_lret (v := np.toInt64) () hQ hx hb hr hlocks hS dX7_told_77 hv hP hD
  replace hv := hv.2
  by_cases hk_12 : x = 2
  · have hv := hv.1 hk_12
    refine lv_tableIn (off := 77) (tgt := 78) hx hb dX7_told_1 (by rw [hk_12]; decide) (by rw [hk_12]; decide) (by rw [hk_12]; decide) (by decide) ?_
    refine lv_aload_n hx hb dX7_told_78 rfl (lv_at hl 0 rfl) ?_
    refine va_get (D := G.1) (ci := 7) (v := .ref e0) (C := RX7) (T := TX7) (N := 11) hx hb hts hinX7 hown hKK.1 hP 0 rfl rfl 0 (by decide) kl10 (fun _ h9 => h9) rfl dX7_told_79 ?_
    refine va_get (D := G.1) (ci := 5) (v := .int xl) (C := RX5) (T := TX5) (N := 8) hx hb hts hinX5 hown hKK.1 hP 8 rfl rfl 1 (by decide) kl82 (fun _ h9 => h9) rfl dX7_told_82 ?_
    refine lv_i2l hx hb dX7_told_85 rfl ?_
    exact x_lret (v := xl.toInt64) () hQ hx hb hr hlocks hS dX7_told_86 hv hP hD
  replace hv := hv.2
  by_cases hk_13 : x = 3
  · have hv := hv.1 hk_13
    refine lv_tableIn (off := 86) (tgt := 87) hx hb dX7_told_1 (by rw [hk_13]; decide) (by rw [hk_13]; decide) (by rw [hk_13]; decide) (by decide) ?_
    refine lv_aload_n hx hb dX7_told_87 rfl (lv_at hl 0 rfl) ?_
    refine va_get (D := G.1) (ci := 7) (v := .ref n) (C := RX7) (T := TX7) (N := 11) hx hb hts hinX7 hown hKK.1 hP 0 rfl rfl 3 (by decide) kl29 (fun _ h9 => h9) rfl dX7_told_88 ?_
    refine va_get (D := G.1) (ci := 1) (v := .int mi) (C := RX1) (T := TX1) (N := 10) hx hb hts hinX1 hown hKK.1 hP 10 rfl rfl 8 (by decide) kl109 (fun _ h9 => h9) rfl dX7_told_91 ?_
    refine lv_i2l hx hb dX7_told_94 rfl ?_
    exact x_lret (v := mi.toInt64) () hQ hx hb hr hlocks hS dX7_told_95 hv hP hD
  replace hv := hv.2
  by_cases hk_14 : x = 4
  · have hv := hv.1 hk_14
    refine lv_tableIn (off := 95) (tgt := 96) hx hb dX7_told_1 (by rw [hk_14]; decide) (by rw [hk_14]; decide) (by rw [hk_14]; decide) (by decide) ?_
    refine lv_aload_n hx hb dX7_told_96 rfl (lv_at hl 0 rfl) ?_
    refine va_get (D := G.1) (ci := 7) (v := .ref n) (C := RX7) (T := TX7) (N := 11) hx hb hts hinX7 hown hKK.1 hP 0 rfl rfl 3 (by decide) kl29 (fun _ h9 => h9) rfl dX7_told_97 ?_
    refine va_get (D := G.1) (ci := 1) (v := .int lo) (C := RX1) (T := TX1) (N := 10) hx hb hts hinX1 hown hKK.1 hP 10 rfl rfl 7 (by decide) kl112 (fun _ h9 => h9) rfl dX7_told_100 ?_
    refine lv_i2l hx hb dX7_told_103 rfl ?_
    exact x_lret (v := lo.toInt64) () hQ hx hb hr hlocks hS dX7_told_104 hv hP hD
  replace hv := hv.2
  by_cases hk_15 : x = 5
  · have hv := hv.1 hk_15
    refine lv_tableIn (off := 104) (tgt := 105) hx hb dX7_told_1 (by rw [hk_15]; decide) (by rw [hk_15]; decide) (by rw [hk_15]; decide) (by decide) ?_
    refine lv_aload_n hx hb dX7_told_105 rfl (lv_at hl 0 rfl) ?_
    refine va_get (D := G.1) (ci := 7) (v := .ref t) (C := RX7) (T := TX7) (N := 11) hx hb hts hinX7 hown hKK.1 hP 0 rfl rfl 1 (by decide) kl19 (fun _ h9 => h9) rfl dX7_told_106 ?_
    refine va_get (D := G.1) (ci := 6) (v := .int fu) (C := RX6) (T := TX6) (N := 11) hx hb hts hinX6 hown hKK.1 hP 1 rfl rfl 2 (by decide) kl115 (fun _ h9 => h9) rfl dX7_told_109 ?_
    refine lv_i2l hx hb dX7_told_112 rfl ?_
    exact x_lret (v := fu.toInt64) () hQ hx hb hr hlocks hS dX7_told_113 hv hP hD
  replace hv := hv.2
  by_cases hk_16 : x = 6
  · have hv := hv.1 hk_16
    refine lv_tableIn (off := 113) (tgt := 114) hx hb dX7_told_1 (by rw [hk_16]; decide) (by rw [hk_16]; decide) (by rw [hk_16]; decide) (by decide) ?_
    refine lv_aload_n hx hb dX7_told_114 rfl (lv_at hl 0 rfl) ?_
    refine va_get (D := G.1) (ci := 7) (v := .ref t) (C := RX7) (T := TX7) (N := 11) hx hb hts hinX7 hown hKK.1 hP 0 rfl rfl 1 (by decide) kl19 (fun _ h9 => h9) rfl dX7_told_115 ?_
    refine va_get (D := G.1) (ci := 6) (v := .int fd) (C := RX6) (T := TX6) (N := 11) hx hb hts hinX6 hown hKK.1 hP 1 rfl rfl 3 (by decide) kl118 (fun _ h9 => h9) rfl dX7_told_118 ?_
    refine lv_i2l hx hb dX7_told_121 rfl ?_
    exact x_lret (v := fd.toInt64) () hQ hx hb hr hlocks hS dX7_told_122 hv hP hD
  replace hv := hv.2
  by_cases hk_17 : x = 7
  · have hv := hv.1 hk_17
    refine lv_tableIn (off := 122) (tgt := 123) hx hb dX7_told_1 (by rw [hk_17]; decide) (by rw [hk_17]; decide) (by rw [hk_17]; decide) (by decide) ?_
    refine lv_aload_n hx hb dX7_told_123 rfl (lv_at hl 0 rfl) ?_
    refine va_get (D := G.1) (ci := 7) (v := .ref t) (C := RX7) (T := TX7) (N := 11) hx hb hts hinX7 hown hKK.1 hP 0 rfl rfl 1 (by decide) kl19 (fun _ h9 => h9) rfl dX7_told_124 ?_
    refine va_get (D := G.1) (ci := 6) (v := .int fi) (C := RX6) (T := TX6) (N := 11) hx hb hts hinX6 hown hKK.1 hP 1 rfl rfl 4 (by decide) kl121 (fun _ h9 => h9) rfl dX7_told_127 ?_
    refine lv_i2l hx hb dX7_told_130 rfl ?_
    exact x_lret (v := fi.toInt64) () hQ hx hb hr hlocks hS dX7_told_131 hv hP hD
  replace hv := hv.2
  by_cases hk_18 : x = 8
  · have hv := hv.1 hk_18
    refine lv_tableIn (off := 131) (tgt := 132) hx hb dX7_told_1 (by rw [hk_18]; decide) (by rw [hk_18]; decide) (by rw [hk_18]; decide) (by decide) ?_
    refine lv_aload_n hx hb dX7_told_132 rfl (lv_at hl 0 rfl) ?_
    refine va_get (D := G.1) (ci := 7) (v := .ref b0) (C := RX7) (T := TX7) (N := 11) hx hb hts hinX7 hown hKK.1 hP 0 rfl rfl 7 (by decide) kl43 (fun _ h9 => h9) rfl dX7_told_133 ?_
    refine va_get (D := G.1) (ci := 0) (v := .int en) (C := RX0) (T := TX0) (N := 3) hx hb hts hinX0 hown hKK.1 hP 18 rfl rfl 2 (by decide) kl94 (fun _ h9 => h9) rfl dX7_told_136 ?_
    refine lv_i2l hx hb dX7_told_139 rfl ?_
    exact x_lret (v := en.toInt64) () hQ hx hb hr hlocks hS dX7_told_140 hv hP hD
  replace hv := hv.2
  by_cases hk_19 : x = 9
  · have hv := hv.1 hk_19
    refine lv_tableIn (off := 140) (tgt := 141) hx hb dX7_told_1 (by rw [hk_19]; decide) (by rw [hk_19]; decide) (by rw [hk_19]; decide) (by decide) ?_
    refine lv_aload_n hx hb dX7_told_141 rfl (lv_at hl 0 rfl) ?_
    refine va_get (D := G.1) (ci := 7) (v := .ref n) (C := RX7) (T := TX7) (N := 11) hx hb hts hinX7 hown hKK.1 hP 0 rfl rfl 3 (by decide) kl29 (fun _ h9 => h9) rfl dX7_told_142 ?_
    refine va_get (D := G.1) (ci := 1) (v := .ref n4) (C := RX1) (T := TX1) (N := 10) hx hb hts hinX1 hown hKK.1 hP 10 rfl rfl 3 (by decide) kl124 (fun _ h9 => h9) rfl dX7_told_145 ?_
    obtain ⟨gv_2, gof_3, gnn_4, hv⟩ := hv
    obtain ⟨hp, hv⟩ := hv
    refine x_calliR (x_runS (As := [.ref n4]) (rest := []) (n := 1) ⟨hx, hb, hml, hown, hts⟩ (k_X7_sumOf8 l G n4 _ cd gv_2 gof_3 gnn_4 hp) gX7_told_X7_sumOf rfl (by decide +kernel) ⟨Nat.le_trans (Nat.le_of_ble_eq_true rfl) hRf, Nat.le_trans (Nat.le_of_ble_eq_true rfl) hRl⟩ hKK hSS hS hA hP hD [14] (by decide) rfl rfl hl.1 rfl (Nat.le_of_ble_eq_true rfl) dX7_told_148) hP hD hS hA [14] rfl (fun r_5 _ H locs hw hP hS => ?_)
    have hv := hv r_5 hw
    refine lv_i2l hx hb dX7_told_151 rfl ?_
    exact x_lret (v := r_5.toInt64) () hQ hx hb hr hlocks hS dX7_told_152 hv hP hD
  replace hv := hv.2
  by_cases hk_110 : x = 10
  · have hv := hv.1 hk_110
    refine lv_tableIn (off := 152) (tgt := 153) hx hb dX7_told_1 (by rw [hk_110]; decide) (by rw [hk_110]; decide) (by rw [hk_110]; decide) (by decide) ?_
    refine lv_aload_n hx hb dX7_told_153 rfl (lv_at hl 0 rfl) ?_
    refine va_get (D := G.1) (ci := 7) (v := .ref n) (C := RX7) (T := TX7) (N := 11) hx hb hts hinX7 hown hKK.1 hP 0 rfl rfl 3 (by decide) kl29 (fun _ h9 => h9) rfl dX7_told_154 ?_
    refine va_get (D := G.1) (ci := 1) (v := .ref n1) (C := RX1) (T := TX1) (N := 10) hx hb hts hinX1 hown hKK.1 hP 10 rfl rfl 0 (by decide) kl132 (fun _ h9 => h9) rfl dX7_told_157 ?_
    obtain ⟨gv_6, gof_7, gnn_8, hv⟩ := hv
    obtain ⟨hp, hv⟩ := hv
    refine x_calliR (x_runS (As := [.ref n1]) (rest := []) (n := 1) ⟨hx, hb, hml, hown, hts⟩ (k_X7_sumOf9 l G n1 _ ht gv_6 gof_7 gnn_8 hp) gX7_told_X7_sumOf rfl (by decide +kernel) ⟨Nat.le_trans (Nat.le_of_ble_eq_true rfl) hRf, Nat.le_trans (Nat.le_of_ble_eq_true rfl) hRl⟩ hKK hSS hS hA hP hD [11] (by decide) rfl rfl hl.1 rfl (Nat.le_of_ble_eq_true rfl) dX7_told_160) hP hD hS hA [11] rfl (fun r_9 _ H locs hw hP hS => ?_)
    have hv := hv r_9 hw
    refine lv_aload_n hx hb dX7_told_163 rfl (lv_at hl 0 rfl) ?_
    refine va_get (D := G.1) (ci := 7) (v := .ref n) (C := RX7) (T := TX7) (N := 11) hx hb hts hinX7 hown hKK.1 hP 0 rfl rfl 3 (by decide) kl29 (fun _ h9 => h9) rfl dX7_told_164 ?_
    refine va_get (D := G.1) (ci := 1) (v := .ref n2) (C := RX1) (T := TX1) (N := 10) hx hb hts hinX1 hown hKK.1 hP 10 rfl rfl 1 (by decide) kl135 (fun _ h9 => h9) rfl dX7_told_167 ?_
    obtain ⟨gv_10, gof_11, gnn_12, hv⟩ := hv
    obtain ⟨hp, hv⟩ := hv
    refine x_calliR (x_runS (As := [.ref n2]) (rest := [.int r_9]) (n := 1) ⟨hx, hb, hml, hown, hts⟩ (k_X7_sumOf8 l G n2 _ wm gv_10 gof_11 gnn_12 hp) gX7_told_X7_sumOf rfl (by decide +kernel) ⟨Nat.le_trans (Nat.le_of_ble_eq_true rfl) hRf, Nat.le_trans (Nat.le_of_ble_eq_true rfl) hRl⟩ hKK hSS hS hA hP hD [12] (by decide) rfl rfl hl.1 rfl (Nat.le_of_ble_eq_true rfl) dX7_told_170) hP hD hS hA [12] rfl (fun r_13 _ H locs hw hP hS => ?_)
    have hv := hv r_13 hw
    refine lv_iadd hx hb dX7_told_173 ?_
    refine lv_i2l hx hb dX7_told_174 rfl ?_
    exact x_lret (v := (r_9 + r_13).toInt64) () hQ hx hb hr hlocks hS dX7_told_175 hv hP hD
  replace hv := hv.2
  have hv := hv ⟨hk_10, hk_11, hk_12, hk_13, hk_14, hk_15, hk_16, hk_17, hk_18, hk_19, hk_110⟩
  refine lv_tableOut (tgt := 176) hx hb dX7_told_1 (ts_out 10 (by decide) (ts_ne_all 10 ⟨⟨⟨⟨⟨⟨⟨⟨⟨⟨hk_10, hk_11⟩, hk_12⟩, hk_13⟩, hk_14⟩, hk_15⟩, hk_16⟩, hk_17⟩, hk_18⟩, hk_19⟩, hk_110⟩)) (by decide) ?_
  refine lv_ldc2 (v := (-1000000002)) hx hb hown kl138 dX7_told_176 ?_
  exact x_lret (v := (-1000000002)) () hQ hx hb hr hlocks hS dX7_told_179 hv hP hD
theorem v_X7_told (l : Launch) (G : Gt) (h0 t t1 t2 t3 t4 t5 t6 e0 e01 n n1 n2 n3 n4 n5 n6 n7 b0 b01 b02 : Nat) (sz : Nat) (k : Nat) (j : Nat) (i0 : Nat) (s0 : Nat) (q : Nat) (g : Nat) (kp : Int32) (ns : Int32) (np : Int32) (fu : Int32) (fd : Int32) (fi : Int32) (sz_ : Nat → Int32) (pt : Nat → Int32) (fh : Nat → Int32) (kd : Nat → Int32) (nd : Nat → Int32) (fw : Nat → Int32) (xb : Nat → Int32) (xl : Int32) (xf : Int32) (xg : Int32) (xa : Int32) (xt : Int32) (xr : Int32) (xn : Int32) (ht : Nat → Int32) (wm : Nat → Int32) (se : Nat → Int32) (cd : Nat → Int32) (sl : Nat → Int32) (od : Nat → Int32) (ow : Nat → Int32) (lo : Int32) (mi : Int32) (sd : Int32) (en : Int32) (bs : Nat → Int32) (bh : Nat → Int32) (x : Int32) (T : Nat → Nat → Int) (Ns : Nat) (Np : Nat) (v : Nat → Int) (M : Int) (hp : TOK T Ns Np ∧ CT T Ns Np ns np fu fd fi sz_ pt kd nd ∧ CN Ns Np v ht wm se cd sl od ow lo mi sd ∧ NOK T Ns Np (fun _ => 2 * M) M v ∧ M ≤ 900000) : (x = 0 → ns.toInt64.toInt = aTold T Ns Np v xl.toInt en.toInt x.toInt) ∧ (x = 1 → np.toInt64.toInt = aTold T Ns Np v xl.toInt en.toInt x.toInt) ∧ (x = 2 → xl.toInt64.toInt = aTold T Ns Np v xl.toInt en.toInt x.toInt) ∧ (x = 3 → mi.toInt64.toInt = aTold T Ns Np v xl.toInt en.toInt x.toInt) ∧ (x = 4 → lo.toInt64.toInt = aTold T Ns Np v xl.toInt en.toInt x.toInt) ∧ (x = 5 → fu.toInt64.toInt = aTold T Ns Np v xl.toInt en.toInt x.toInt) ∧ (x = 6 → fd.toInt64.toInt = aTold T Ns Np v xl.toInt en.toInt x.toInt) ∧ (x = 7 → fi.toInt64.toInt = aTold T Ns Np v xl.toInt en.toInt x.toInt) ∧ (x = 8 → en.toInt64.toInt = aTold T Ns Np v xl.toInt en.toInt x.toInt) ∧ (x = 9 → ∃ (gv_2 : Nat → Int) (gof_3 : Nat) (gnn_4 : Nat), ((SumP cd gv_2 gof_3 gnn_4 8) ∧ (∀ (r_5 : Int32), (r_5.toInt = zSum gv_2 gof_3 gnn_4) → (r_5.toInt64.toInt = aTold T Ns Np v xl.toInt en.toInt x.toInt)))) ∧ (x = 10 → ∃ (gv_6 : Nat → Int) (gof_7 : Nat) (gnn_8 : Nat), ((SumP ht gv_6 gof_7 gnn_8 9) ∧ (∀ (r_9 : Int32), (r_9.toInt = zSum gv_6 gof_7 gnn_8) → (∃ (gv_10 : Nat → Int) (gof_11 : Nat) (gnn_12 : Nat), ((SumP wm gv_10 gof_11 gnn_12 8) ∧ (∀ (r_13 : Int32), (r_13.toInt = zSum gv_10 gof_11 gnn_12) → (((r_9 + r_13).toInt64).toInt = aTold T Ns Np v xl.toInt en.toInt x.toInt))))))) ∧ (¬ x = 0 ∧ ¬ x = 1 ∧ ¬ x = 2 ∧ ¬ x = 3 ∧ ¬ x = 4 ∧ ¬ x = 5 ∧ ¬ x = 6 ∧ ¬ x = 7 ∧ ¬ x = 8 ∧ ¬ x = 9 ∧ ¬ x = 10 → ((-1000000002) : Int64).toInt = aTold T Ns Np v xl.toInt en.toInt x.toInt) := by
  obtain ⟨hT, hC, hN, hO, hM⟩ := hp
  have t1 := hT.1
  have t2 := hT.2.1
  have hns : ns = nI Ns := hC.1
  have hnp : np = nI Np := hC.2.1
  have b1 : ∀ i, i < Np → 0 ≤ v (10 + i) ∧ v (10 + i) ≤ 9999 := fun i hi => (nok_p hO hi).1
  have b0 : ∀ i, i < Ns → 0 ≤ v i ∧ v i ≤ 9999 := fun i hi => by have := hO.1 i hi; have := hT.2.2.1 i hi; omega
  have s0 : 0 ≤ zSum v 0 Ns ∧ zSum v 0 Ns ≤ Ns * 9999 := ⟨zSum_nn (fun j hj => by rw [Nat.zero_add]; exact (b0 j hj).1), zSum_le (fun j hj => by rw [Nat.zero_add]; exact (b0 j hj).2)⟩
  have s1 : 0 ≤ zSum v 10 Np ∧ zSum v 10 Np ≤ Np * 9999 := ⟨zSum_nn (fun j hj => (b1 j hj).1), zSum_le (fun j hj => (b1 j hj).2)⟩
  refine ⟨?_, ?_, ?_, ?_, ?_, ?_, ?_, ?_, ?_, ?_, ?_, ?_⟩
  · intro hx
    have hz : x.toInt = 0 := by rw [hx]; rfl
    simp only [aTold, hz, reduceIte, Int.reduceEq]
    rw [hns]; exact i_l (nI_toInt (by omega))
  · intro hx
    have hz : x.toInt = 1 := by rw [hx]; rfl
    simp only [aTold, hz, reduceIte, Int.reduceEq]
    rw [hnp]; exact i_l (nI_toInt (by omega))
  · intro hx
    have hz : x.toInt = 2 := by rw [hx]; rfl
    simp only [aTold, hz, reduceIte, Int.reduceEq]
    exact i_l rfl
  · intro hx
    have hz : x.toInt = 3 := by rw [hx]; rfl
    simp only [aTold, hz, reduceIte, Int.reduceEq]
    exact i_l hN.m
  · intro hx
    have hz : x.toInt = 4 := by rw [hx]; rfl
    simp only [aTold, hz, reduceIte, Int.reduceEq]
    exact i_l hN.x
  · intro hx
    have hz : x.toInt = 5 := by rw [hx]; rfl
    simp only [aTold, hz, reduceIte, Int.reduceEq]
    exact i_l hC.2.2.2.2.1
  · intro hx
    have hz : x.toInt = 6 := by rw [hx]; rfl
    simp only [aTold, hz, reduceIte, Int.reduceEq]
    exact i_l hC.2.2.2.2.2.1
  · intro hx
    have hz : x.toInt = 7 := by rw [hx]; rfl
    simp only [aTold, hz, reduceIte, Int.reduceEq]
    exact i_l hC.2.2.2.2.2.2
  · intro hx
    have hz : x.toInt = 8 := by rw [hx]; rfl
    simp only [aTold, hz, reduceIte, Int.reduceEq]
    exact i_l rfl
  · intro hx
    have hz : x.toInt = 9 := by rw [hx]; rfl
    simp only [aTold, hz, reduceIte, Int.reduceEq]
    exact ⟨v, 30, Np, ⟨fun i hi => hN.c t2 hi, fun i h1 h2 => (hN.2.2 i h1 h2).2.2, t2, fun i hi => by have := (nok_p hO hi).2.2.1; omega⟩, fun r hr => i_l hr⟩
  · intro hx
    have hz : x.toInt = 10 := by rw [hx]; rfl
    simp only [aTold, hz, reduceIte, Int.reduceEq]
    refine ⟨v, 0, Ns, ⟨fun i hi => by rw [Nat.zero_add]; exact hN.h t1 hi, fun i h1 h2 => hN.2.1 i h1 h2, t1, fun i hi => by rw [Nat.zero_add]; have := b0 i hi; omega⟩, fun r hr => ⟨v, 10, Np, ⟨fun i hi => hN.w t2 hi, fun i h1 h2 => (hN.2.2 i h1 h2).1, t2, fun i hi => by have := b1 i hi; omega⟩, fun r2 hr2 => ?_⟩⟩
    exact i_l (i_add hr hr2 (by omega) (by omega))
  · rintro ⟨n0, n1, n2, n3, n4, n5, n6, n7, n8, n9, n10⟩
    unfold aTold
    have N0 : ¬ x.toInt = 0 := ne_z n0; have N1 : ¬ x.toInt = 1 := ne_z n1; have N2 : ¬ x.toInt = 2 := ne_z n2; have N3 : ¬ x.toInt = 3 := ne_z n3; have N4 : ¬ x.toInt = 4 := ne_z n4; have N5 : ¬ x.toInt = 5 := ne_z n5; have N6 : ¬ x.toInt = 6 := ne_z n6; have N7 : ¬ x.toInt = 7 := ne_z n7; have N8 : ¬ x.toInt = 8 := ne_z n8; have N9 : ¬ x.toInt = 9 := ne_z n9; have N10 : ¬ x.toInt = 10 := ne_z n10
    rw [if_neg N0, if_neg N1, if_neg N2, if_neg N3, if_neg N4, if_neg N5, if_neg N6, if_neg N7, if_neg N8, if_neg N9, if_neg N10]
    rfl
theorem k_X7_told (l : Launch) (G : Gt) (h0 t t1 t2 t3 t4 t5 t6 e0 e01 n n1 n2 n3 n4 n5 n6 n7 b0 b01 b02 : Nat) (sz : Nat) (k : Nat) (j : Nat) (i0 : Nat) (s0 : Nat) (q : Nat) (g : Nat) (kp : Int32) (ns : Int32) (np : Int32) (fu : Int32) (fd : Int32) (fi : Int32) (sz_ : Nat → Int32) (pt : Nat → Int32) (fh : Nat → Int32) (kd : Nat → Int32) (nd : Nat → Int32) (fw : Nat → Int32) (xb : Nat → Int32) (xl : Int32) (xf : Int32) (xg : Int32) (xa : Int32) (xt : Int32) (xr : Int32) (xn : Int32) (ht : Nat → Int32) (wm : Nat → Int32) (se : Nat → Int32) (cd : Nat → Int32) (sl : Nat → Int32) (od : Nat → Int32) (ow : Nat → Int32) (lo : Int32) (mi : Int32) (sd : Int32) (en : Int32) (bs : Nat → Int32) (bh : Nat → Int32) (x : Int32) (T : Nat → Nat → Int) (Ns : Nat) (Np : Nat) (v : Nat → Int) (M : Int) (hp : TOK T Ns Np ∧ CT T Ns Np ns np fu fd fi sz_ pt kd nd ∧ CN Ns Np v ht wm se cd sl od ow lo mi sd ∧ NOK T Ns Np (fun _ => 2 * M) M v ∧ M ≤ 900000) : MetL l yX7_told wsX7_told 1 25 G [.ref h0, .int x] [(h0, .inr (7, [.ref e0, .ref t, .ref k, .ref n, .ref j, .ref i0, .int kp, .ref b0, .ref s0, .ref q, .ref g])), (t, .inr (6, [.int ns, .int np, .int fu, .int fd, .int fi, .ref t1, .ref t2, .ref t3, .ref t4, .ref t5, .ref t6])), aI G t1 9 sz_, aI G t2 9 pt, aI G t3 9 fh, aI G t4 8 kd, aI G t5 8 nd, aI G t6 8 fw, (e0, .inr (5, [.ref e01, .int xl, .int xf, .int xg, .int xa, .int xt, .int xr, .int xn])), aB G e01 400 xb, (n, .inr (1, [.ref n1, .ref n2, .ref n3, .ref n4, .ref n5, .ref n6, .ref n7, .int lo, .int mi, .int sd])), aI G n1 9 ht, aI G n2 8 wm, aI G n3 8 se, aI G n4 8 cd, aI G n5 8 sl, aI G n6 8 od, aI G n7 72 ow, (b0, .inr (0, [.ref b01, .ref b02, .int en])), aI G b01 30 bs, aI G b02 30 bh] sz (fun (r : Int64) (_ : Unit) => r.toInt = aTold T Ns Np v xl.toInt en.toInt x.toInt) (fun (_ : Unit) => [(h0, .inr (7, [.ref e0, .ref t, .ref k, .ref n, .ref j, .ref i0, .int kp, .ref b0, .ref s0, .ref q, .ref g])), (t, .inr (6, [.int ns, .int np, .int fu, .int fd, .int fi, .ref t1, .ref t2, .ref t3, .ref t4, .ref t5, .ref t6])), aI G t1 9 sz_, aI G t2 9 pt, aI G t3 9 fh, aI G t4 8 kd, aI G t5 8 nd, aI G t6 8 fw, (e0, .inr (5, [.ref e01, .int xl, .int xf, .int xg, .int xa, .int xt, .int xr, .int xn])), aB G e01 400 xb, (n, .inr (1, [.ref n1, .ref n2, .ref n3, .ref n4, .ref n5, .ref n6, .ref n7, .int lo, .int mi, .int sd])), aI G n1 9 ht, aI G n2 8 wm, aI G n3 8 se, aI G n4 8 cd, aI G n5 8 sl, aI G n6 8 od, aI G n7 72 ow, (b0, .inr (0, [.ref b01, .ref b02, .int en])), aI G b01 30 bs, aI G b02 30 bh]) :=
  c_X7_told l G h0 t t1 t2 t3 t4 t5 t6 e0 e01 n n1 n2 n3 n4 n5 n6 n7 b0 b01 b02 sz k j i0 s0 q g kp ns np fu fd fi sz_ pt fh kd nd fw xb xl xf xg xa xt xr xn ht wm se cd sl od ow lo mi sd en bs bh x T Ns Np v M (v_X7_told l G h0 t t1 t2 t3 t4 t5 t6 e0 e01 n n1 n2 n3 n4 n5 n6 n7 b0 b01 b02 sz k j i0 s0 q g kp ns np fu fd fi sz_ pt fh kd nd fw xb xl xf xg xa xt xr xn ht wm se cd sl od ow lo mi sd en bs bh x T Ns Np v M hp)

set_option maxHeartbeats 4000000 in
set_option maxRecDepth 100000 in
theorem c_X7_stone (l : Launch) (G : Gt) (h0 t t1 t2 t3 t4 t5 t6 n n1 n2 n3 n4 n5 n6 n7 : Nat) (sz : Nat) (e0 : Nat) (k : Nat) (j : Nat) (i0 : Nat) (b0 : Nat) (s0 : Nat) (q : Nat) (g : Nat) (kp : Int32) (ns : Int32) (np : Int32) (fu : Int32) (fd : Int32) (fi : Int32) (sz_ : Nat → Int32) (pt : Nat → Int32) (fh : Nat → Int32) (kd : Nat → Int32) (nd : Nat → Int32) (fw : Nat → Int32) (ht : Nat → Int32) (wm : Nat → Int32) (se : Nat → Int32) (cd : Nat → Int32) (sl : Nat → Int32) (od : Nat → Int32) (ow : Nat → Int32) (lo : Int32) (mi : Int32) (sd : Int32) (x : Int32) (y : Int32) (T : Nat → Nat → Int) (Ns : Nat) (Np : Nat) (v : Nat → Int) (M : Int) (hv : (¬ x < 0 ∧ ¬ ns ≤ x → (y = 0 → (vp_in x 9) ∧ ((sz_ x.toNatClampNeg).toInt = aStone T Ns Np v x.toInt y.toInt)) ∧ (y = 1 → (vp_in x 9) ∧ ((pt x.toNatClampNeg).toInt = aStone T Ns Np v x.toInt y.toInt)) ∧ (y = 2 → (vp_in x 9) ∧ ((ht x.toNatClampNeg).toInt = aStone T Ns Np v x.toInt y.toInt)) ∧ (y = 3 → ∃ (gNs_4 : Nat) (gNp_5 : Nat) (gv_6 : Nat → Int) (gib_7 : Nat), ((gNp_5 ≤ 8 ∧ CN gNs_4 gNp_5 gv_6 ht wm se cd sl od ow lo mi sd ∧ x = nI gib_7 ∧ (gib_7 < gNs_4 ∧ gNs_4 ≤ 9)) ∧ (∀ (r_8 : Int32), (r_8 = zSitter gv_6 gib_7 gNp_5 ∧ (r_8 = -1 ↔ zEmpty gv_6 gib_7 gNp_5)) → (r_8.toInt = aStone T Ns Np v x.toInt y.toInt)))) ∧ (¬ y = 0 ∧ ¬ y = 1 ∧ ¬ y = 2 ∧ ¬ y = 3 → ((-1000000002) : Int32).toInt = aStone T Ns Np v x.toInt y.toInt)) ∧ (¬ (¬ x < 0 ∧ ¬ ns ≤ x) → ((-1000000001) : Int32).toInt = aStone T Ns Np v x.toInt y.toInt)) : MetI l yX7_stone wsX7_stone 1 22 G [.ref h0, .int x, .int y] [(h0, .inr (7, [.ref e0, .ref t, .ref k, .ref n, .ref j, .ref i0, .int kp, .ref b0, .ref s0, .ref q, .ref g])), (t, .inr (6, [.int ns, .int np, .int fu, .int fd, .int fi, .ref t1, .ref t2, .ref t3, .ref t4, .ref t5, .ref t6])), aI G t1 9 sz_, aI G t2 9 pt, aI G t3 9 fh, aI G t4 8 kd, aI G t5 8 nd, aI G t6 8 fw, (n, .inr (1, [.ref n1, .ref n2, .ref n3, .ref n4, .ref n5, .ref n6, .ref n7, .int lo, .int mi, .int sd])), aI G n1 9 ht, aI G n2 8 wm, aI G n3 8 se, aI G n4 8 cd, aI G n5 8 sl, aI G n6 8 od, aI G n7 72 ow] sz (fun (r : Int32) (_ : Unit) => r.toInt = aStone T Ns Np v x.toInt y.toInt) (fun (_ : Unit) => [(h0, .inr (7, [.ref e0, .ref t, .ref k, .ref n, .ref j, .ref i0, .int kp, .ref b0, .ref s0, .ref q, .ref g])), (t, .inr (6, [.int ns, .int np, .int fu, .int fd, .int fi, .ref t1, .ref t2, .ref t3, .ref t4, .ref t5, .ref t6])), aI G t1 9 sz_, aI G t2 9 pt, aI G t3 9 fh, aI G t4 8 kd, aI G t5 8 nd, aI G t6 8 fw, (n, .inr (1, [.ref n1, .ref n2, .ref n3, .ref n4, .ref n5, .ref n6, .ref n7, .int lo, .int mi, .int sd])), aI G n1 9 ht, aI G n2 8 wm, aI G n3 8 se, aI G n4 8 cd, aI G n5 8 sl, aI G n6 8 od, aI G n7 72 ow]) := by
  refine x_startI (cc := cX7_stone) (maxL := 3) (ret := (some .int)) (by decide) rfl (Nat.le_of_ble_eq_true rfl) ?_
  intro p e s m args below meth c A R Q ls hRf hRl hQ C hP hD hS hA hSS hl
  obtain ⟨hx, hb, hr, hml, hown, hts, hlocks, hKK⟩ := C
  have hown : s.vm.findClass RX7 = some m.cls := hown
  have hl : lv_has ls 3 [(0, .ref h0), (1, .int x), (2, .int y)] := hl
  have hinX1 : ∀ w ∈ u_ws RX1 TX1 10, w ∈ wsX7_stone := by decide +kernel
  have hinX6 : ∀ w ∈ u_ws RX6 TX6 11, w ∈ wsX7_stone := by decide +kernel
  have hinX7 : ∀ w ∈ u_ws RX7 TX7 11, w ∈ wsX7_stone := by decide +kernel
  have kl132 := hts (.fieldLink RX7 132 "WarmStones$Night" "heat" "[I") (by decide +kernel)
  have kl143 := hts (.constant RX7 143 (-1000000001)) (by decide +kernel)
  have kl144 := hts (.fieldLink RX7 144 "WarmStones$Town" "size" "[I") (by decide +kernel)
  have kl147 := hts (.fieldLink RX7 147 "WarmStones$Town" "part" "[I") (by decide +kernel)
  have kl19 := hts (.fieldLink RX7 19 "WarmStones" "town" "LWarmStones$Town;") (by decide +kernel)
  have kl29 := hts (.fieldLink RX7 29 "WarmStones" "night" "LWarmStones$Night;") (by decide +kernel)
  have kl72 := hts (.constant RX7 72 (-1000000002)) (by decide +kernel)
  refine lv_aload_n hx hb dX7_stone_0 rfl (lv_at hl 0 rfl) ?_
  refine va_get (D := G.1) (ci := 7) (v := .ref t) (C := RX7) (T := TX7) (N := 11) hx hb hts hinX7 hown hKK.1 hP 0 rfl rfl 1 (by decide) kl19 (fun _ h9 => h9) rfl dX7_stone_1 ?_
  refine lv_iload_n hx hb dX7_stone_4 rfl (lv_at hl 1 rfl) ?_
  refine x_calliR (x_runV (As := [.int x]) (rest := []) (n := 1) (C := RX6) (ci := 6) ⟨hx, hb, hml, hown, hts⟩ (k_X6_hasStone l G t t1 t2 t3 t4 t5 t6 _ ns np fu fd fi sz_ pt fh kd nd fw x) gX7_stone_X6_hasStone rfl (by decide +kernel) ⟨Nat.le_trans (Nat.le_of_ble_eq_true rfl) hRf, Nat.le_trans (Nat.le_of_ble_eq_true rfl) hRl⟩ hKK hSS hS hA hP hD [1, 2, 3, 4, 5, 6, 7] (by decide) rfl rfl rfl 1 rfl rfl hl.1 rfl (Nat.le_of_ble_eq_true rfl) dX7_stone_5) hP hD hS hA [1, 2, 3, 4, 5, 6, 7] rfl (fun r_1 _ H locs hw hP hS => ?_)
  replace hw := hw.symm; subst hw
  refine lv_if_ne (tgt := 14) hx hb dX7_stone_8 (by decide) (fun hc_2 => ?_) (fun hc_2 => ?_)
  · have hv := hv.1 (tv_eqn.mp hc_2)
    refine lv_iload_n hx hb dX7_stone_14 rfl (lv_at hl 2 rfl) ?_
    by_cases hk_30 : y = 0
    · have hv := hv.1 hk_30
      refine lv_tableIn (off := 29) (tgt := 44) hx hb dX7_stone_15 (by rw [hk_30]; decide) (by rw [hk_30]; decide) (by rw [hk_30]; decide) (by decide) ?_
      refine lv_aload_n hx hb dX7_stone_44 rfl (lv_at hl 0 rfl) ?_
      refine va_get (D := G.1) (ci := 7) (v := .ref t) (C := RX7) (T := TX7) (N := 11) hx hb hts hinX7 hown hKK.1 hP 0 rfl rfl 1 (by decide) kl19 (fun _ h9 => h9) rfl dX7_stone_45 ?_
      refine va_get (D := G.1) (ci := 6) (v := .ref t1) (C := RX6) (T := TX6) (N := 11) hx hb hts hinX6 hown hKK.1 hP 1 rfl rfl 5 (by decide) kl144 (fun _ h9 => h9) rfl dX7_stone_48 ?_
      refine lv_iload_n hx hb dX7_stone_51 rfl (lv_at hl 1 rfl) ?_
      obtain ⟨hin, hv⟩ := hv
      refine va_iald hx hb hKK.1 hP 2 0 rfl rfl hin dX7_stone_52 ?_
      exact x_iret (v := (sz_ x.toNatClampNeg)) () hQ hx hb hr hlocks hS dX7_stone_53 hv hP hD
    replace hv := hv.2
    by_cases hk_31 : y = 1
    · have hv := hv.1 hk_31
      refine lv_tableIn (off := 39) (tgt := 54) hx hb dX7_stone_15 (by rw [hk_31]; decide) (by rw [hk_31]; decide) (by rw [hk_31]; decide) (by decide) ?_
      refine lv_aload_n hx hb dX7_stone_54 rfl (lv_at hl 0 rfl) ?_
      refine va_get (D := G.1) (ci := 7) (v := .ref t) (C := RX7) (T := TX7) (N := 11) hx hb hts hinX7 hown hKK.1 hP 0 rfl rfl 1 (by decide) kl19 (fun _ h9 => h9) rfl dX7_stone_55 ?_
      refine va_get (D := G.1) (ci := 6) (v := .ref t2) (C := RX6) (T := TX6) (N := 11) hx hb hts hinX6 hown hKK.1 hP 1 rfl rfl 6 (by decide) kl147 (fun _ h9 => h9) rfl dX7_stone_58 ?_
      refine lv_iload_n hx hb dX7_stone_61 rfl (lv_at hl 1 rfl) ?_
      obtain ⟨hin, hv⟩ := hv
      refine va_iald hx hb hKK.1 hP 3 0 rfl rfl hin dX7_stone_62 ?_
      exact x_iret (v := (pt x.toNatClampNeg)) () hQ hx hb hr hlocks hS dX7_stone_63 hv hP hD
    replace hv := hv.2
    by_cases hk_32 : y = 2
    · have hv := hv.1 hk_32
      refine lv_tableIn (off := 49) (tgt := 64) hx hb dX7_stone_15 (by rw [hk_32]; decide) (by rw [hk_32]; decide) (by rw [hk_32]; decide) (by decide) ?_
      refine lv_aload_n hx hb dX7_stone_64 rfl (lv_at hl 0 rfl) ?_
      refine va_get (D := G.1) (ci := 7) (v := .ref n) (C := RX7) (T := TX7) (N := 11) hx hb hts hinX7 hown hKK.1 hP 0 rfl rfl 3 (by decide) kl29 (fun _ h9 => h9) rfl dX7_stone_65 ?_
      refine va_get (D := G.1) (ci := 1) (v := .ref n1) (C := RX1) (T := TX1) (N := 10) hx hb hts hinX1 hown hKK.1 hP 8 rfl rfl 0 (by decide) kl132 (fun _ h9 => h9) rfl dX7_stone_68 ?_
      refine lv_iload_n hx hb dX7_stone_71 rfl (lv_at hl 1 rfl) ?_
      obtain ⟨hin, hv⟩ := hv
      refine va_iald hx hb hKK.1 hP 9 0 rfl rfl hin dX7_stone_72 ?_
      exact x_iret (v := (ht x.toNatClampNeg)) () hQ hx hb hr hlocks hS dX7_stone_73 hv hP hD
    replace hv := hv.2
    by_cases hk_33 : y = 3
    · have hv := hv.1 hk_33
      refine lv_tableIn (off := 59) (tgt := 74) hx hb dX7_stone_15 (by rw [hk_33]; decide) (by rw [hk_33]; decide) (by rw [hk_33]; decide) (by decide) ?_
      refine lv_aload_n hx hb dX7_stone_74 rfl (lv_at hl 0 rfl) ?_
      refine va_get (D := G.1) (ci := 7) (v := .ref n) (C := RX7) (T := TX7) (N := 11) hx hb hts hinX7 hown hKK.1 hP 0 rfl rfl 3 (by decide) kl29 (fun _ h9 => h9) rfl dX7_stone_75 ?_
      refine lv_iload_n hx hb dX7_stone_78 rfl (lv_at hl 1 rfl) ?_
      obtain ⟨gNs_4, gNp_5, gv_6, gib_7, hv⟩ := hv
      obtain ⟨hp, hv⟩ := hv
      refine x_calliR (x_runV (As := [.int x]) (rest := []) (n := 1) (C := RX1) (ci := 1) ⟨hx, hb, hml, hown, hts⟩ (k_X1_sitterOn l G n n1 n2 n3 n4 n5 n6 n7 _ ht wm se cd sl od ow lo mi sd x gNs_4 gNp_5 gv_6 gib_7 hp) gX7_stone_X1_sitterOn rfl (by decide +kernel) ⟨Nat.le_trans (Nat.le_of_ble_eq_true rfl) hRf, Nat.le_trans (Nat.le_of_ble_eq_true rfl) hRl⟩ hKK hSS hS hA hP hD [8, 9, 10, 11, 12, 13, 14, 15] (by decide) rfl rfl rfl 8 rfl rfl hl.1 rfl (Nat.le_of_ble_eq_true rfl) dX7_stone_79) hP hD hS hA [8, 9, 10, 11, 12, 13, 14, 15] rfl (fun r_8 _ H locs hw hP hS => ?_)
      have hv := hv r_8 hw
      exact x_iret (v := r_8) () hQ hx hb hr hlocks hS dX7_stone_82 hv hP hD
    replace hv := hv.2
    have hv := hv ⟨hk_30, hk_31, hk_32, hk_33⟩
    refine lv_tableOut (tgt := 83) hx hb dX7_stone_15 (ts_out 3 (by decide) (ts_ne_all 3 ⟨⟨⟨hk_30, hk_31⟩, hk_32⟩, hk_33⟩)) (by decide) ?_
    refine lv_ldc (v := (-1000000002)) hx hb hown kl72 dX7_stone_83 ?_
    exact x_iret (v := (-1000000002)) () hQ hx hb hr hlocks hS dX7_stone_85 hv hP hD
  · have hv := hv.2 (tv_eq.mp hc_2)
    refine lv_ldc (v := (-1000000001)) hx hb hown kl143 dX7_stone_11 ?_
    exact x_iret (v := (-1000000001)) () hQ hx hb hr hlocks hS dX7_stone_13 hv hP hD
theorem v_X7_stone (l : Launch) (G : Gt) (h0 t t1 t2 t3 t4 t5 t6 n n1 n2 n3 n4 n5 n6 n7 : Nat) (sz : Nat) (e0 : Nat) (k : Nat) (j : Nat) (i0 : Nat) (b0 : Nat) (s0 : Nat) (q : Nat) (g : Nat) (kp : Int32) (ns : Int32) (np : Int32) (fu : Int32) (fd : Int32) (fi : Int32) (sz_ : Nat → Int32) (pt : Nat → Int32) (fh : Nat → Int32) (kd : Nat → Int32) (nd : Nat → Int32) (fw : Nat → Int32) (ht : Nat → Int32) (wm : Nat → Int32) (se : Nat → Int32) (cd : Nat → Int32) (sl : Nat → Int32) (od : Nat → Int32) (ow : Nat → Int32) (lo : Int32) (mi : Int32) (sd : Int32) (x : Int32) (y : Int32) (T : Nat → Nat → Int) (Ns : Nat) (Np : Nat) (v : Nat → Int) (M : Int) (hp : TOK T Ns Np ∧ CT T Ns Np ns np fu fd fi sz_ pt kd nd ∧ CN Ns Np v ht wm se cd sl od ow lo mi sd ∧ NOK T Ns Np (fun _ => 2 * M) M v ∧ M ≤ 900000) : (¬ x < 0 ∧ ¬ ns ≤ x → (y = 0 → (vp_in x 9) ∧ ((sz_ x.toNatClampNeg).toInt = aStone T Ns Np v x.toInt y.toInt)) ∧ (y = 1 → (vp_in x 9) ∧ ((pt x.toNatClampNeg).toInt = aStone T Ns Np v x.toInt y.toInt)) ∧ (y = 2 → (vp_in x 9) ∧ ((ht x.toNatClampNeg).toInt = aStone T Ns Np v x.toInt y.toInt)) ∧ (y = 3 → ∃ (gNs_4 : Nat) (gNp_5 : Nat) (gv_6 : Nat → Int) (gib_7 : Nat), ((gNp_5 ≤ 8 ∧ CN gNs_4 gNp_5 gv_6 ht wm se cd sl od ow lo mi sd ∧ x = nI gib_7 ∧ (gib_7 < gNs_4 ∧ gNs_4 ≤ 9)) ∧ (∀ (r_8 : Int32), (r_8 = zSitter gv_6 gib_7 gNp_5 ∧ (r_8 = -1 ↔ zEmpty gv_6 gib_7 gNp_5)) → (r_8.toInt = aStone T Ns Np v x.toInt y.toInt)))) ∧ (¬ y = 0 ∧ ¬ y = 1 ∧ ¬ y = 2 ∧ ¬ y = 3 → ((-1000000002) : Int32).toInt = aStone T Ns Np v x.toInt y.toInt)) ∧ (¬ (¬ x < 0 ∧ ¬ ns ≤ x) → ((-1000000001) : Int32).toInt = aStone T Ns Np v x.toInt y.toInt) := by
  obtain ⟨hT, hC, hN, hO, hM⟩ := hp
  have t1 := hT.1
  have t2 := hT.2.1
  have hns : ns = nI Ns := hC.1
  have hnp : np = nI Np := hC.2.1
  have hs_ := hs_iff (x := x) hns (by omega)
  simp only [hs_]
  refine ⟨fun hq => ?_, fun hq => by unfold aStone; rw [if_neg hq]; rfl⟩
  obtain ⟨i, hi, rfl, hxi, hxt⟩ := in_nat hq (by omega)
  have ei : (nI i).toNatClampNeg = i := nI_clamp (by omega)
  have vi : vp_in (nI i) 9 := vp_in_nI (by omega) (by omega)
  simp only [ei]
  refine ⟨fun hy => ⟨vi, ?_⟩, fun hy => ⟨vi, ?_⟩, fun hy => ⟨vi, ?_⟩, fun hy => ⟨Ns, Np, v, i, ⟨t2, hN, rfl, by omega⟩, fun r2 hr2 => ?_⟩, ?_⟩
  · have hz : y.toInt = 0 := by rw [hy]; rfl
    simp only [aStone, if_pos hq, hz, reduceIte, Int.reduceEq, hxt]
    exact (hC.2.2.1 i hi).1
  · have hz : y.toInt = 1 := by rw [hy]; rfl
    simp only [aStone, if_pos hq, hz, reduceIte, Int.reduceEq, hxt]
    exact (hC.2.2.1 i hi).2
  · have hz : y.toInt = 2 := by rw [hy]; rfl
    simp only [aStone, if_pos hq, hz, reduceIte, Int.reduceEq, hxt]
    exact hN.h t1 hi
  · have hz : y.toInt = 3 := by rw [hy]; rfl
    simp only [aStone, if_pos hq, hz, reduceIte, Int.reduceEq, hxt]
    rw [hr2.1]
  · rintro ⟨y0, y1, y2, y3⟩
    unfold aStone
    have N0 : ¬ y.toInt = 0 := ne_z y0; have N1 : ¬ y.toInt = 1 := ne_z y1; have N2 : ¬ y.toInt = 2 := ne_z y2; have N3 : ¬ y.toInt = 3 := ne_z y3
    rw [if_pos hq, if_neg N0, if_neg N1, if_neg N2, if_neg N3]; rfl
theorem k_X7_stone (l : Launch) (G : Gt) (h0 t t1 t2 t3 t4 t5 t6 n n1 n2 n3 n4 n5 n6 n7 : Nat) (sz : Nat) (e0 : Nat) (k : Nat) (j : Nat) (i0 : Nat) (b0 : Nat) (s0 : Nat) (q : Nat) (g : Nat) (kp : Int32) (ns : Int32) (np : Int32) (fu : Int32) (fd : Int32) (fi : Int32) (sz_ : Nat → Int32) (pt : Nat → Int32) (fh : Nat → Int32) (kd : Nat → Int32) (nd : Nat → Int32) (fw : Nat → Int32) (ht : Nat → Int32) (wm : Nat → Int32) (se : Nat → Int32) (cd : Nat → Int32) (sl : Nat → Int32) (od : Nat → Int32) (ow : Nat → Int32) (lo : Int32) (mi : Int32) (sd : Int32) (x : Int32) (y : Int32) (T : Nat → Nat → Int) (Ns : Nat) (Np : Nat) (v : Nat → Int) (M : Int) (hp : TOK T Ns Np ∧ CT T Ns Np ns np fu fd fi sz_ pt kd nd ∧ CN Ns Np v ht wm se cd sl od ow lo mi sd ∧ NOK T Ns Np (fun _ => 2 * M) M v ∧ M ≤ 900000) : MetI l yX7_stone wsX7_stone 1 22 G [.ref h0, .int x, .int y] [(h0, .inr (7, [.ref e0, .ref t, .ref k, .ref n, .ref j, .ref i0, .int kp, .ref b0, .ref s0, .ref q, .ref g])), (t, .inr (6, [.int ns, .int np, .int fu, .int fd, .int fi, .ref t1, .ref t2, .ref t3, .ref t4, .ref t5, .ref t6])), aI G t1 9 sz_, aI G t2 9 pt, aI G t3 9 fh, aI G t4 8 kd, aI G t5 8 nd, aI G t6 8 fw, (n, .inr (1, [.ref n1, .ref n2, .ref n3, .ref n4, .ref n5, .ref n6, .ref n7, .int lo, .int mi, .int sd])), aI G n1 9 ht, aI G n2 8 wm, aI G n3 8 se, aI G n4 8 cd, aI G n5 8 sl, aI G n6 8 od, aI G n7 72 ow] sz (fun (r : Int32) (_ : Unit) => r.toInt = aStone T Ns Np v x.toInt y.toInt) (fun (_ : Unit) => [(h0, .inr (7, [.ref e0, .ref t, .ref k, .ref n, .ref j, .ref i0, .int kp, .ref b0, .ref s0, .ref q, .ref g])), (t, .inr (6, [.int ns, .int np, .int fu, .int fd, .int fi, .ref t1, .ref t2, .ref t3, .ref t4, .ref t5, .ref t6])), aI G t1 9 sz_, aI G t2 9 pt, aI G t3 9 fh, aI G t4 8 kd, aI G t5 8 nd, aI G t6 8 fw, (n, .inr (1, [.ref n1, .ref n2, .ref n3, .ref n4, .ref n5, .ref n6, .ref n7, .int lo, .int mi, .int sd])), aI G n1 9 ht, aI G n2 8 wm, aI G n3 8 se, aI G n4 8 cd, aI G n5 8 sl, aI G n6 8 od, aI G n7 72 ow]) :=
  c_X7_stone l G h0 t t1 t2 t3 t4 t5 t6 n n1 n2 n3 n4 n5 n6 n7 sz e0 k j i0 b0 s0 q g kp ns np fu fd fi sz_ pt fh kd nd fw ht wm se cd sl od ow lo mi sd x y T Ns Np v M (v_X7_stone l G h0 t t1 t2 t3 t4 t5 t6 n n1 n2 n3 n4 n5 n6 n7 sz e0 k j i0 b0 s0 q g kp ns np fu fd fi sz_ pt fh kd nd fw ht wm se cd sl od ow lo mi sd x y T Ns Np v M hp)

set_option maxHeartbeats 4000000 in
set_option maxRecDepth 100000 in
theorem c_X7_person (l : Launch) (G : Gt) (h0 t t1 t2 t3 t4 t5 t6 n n1 n2 n3 n4 n5 n6 n7 : Nat) (sz : Nat) (e0 : Nat) (k : Nat) (j : Nat) (i0 : Nat) (b0 : Nat) (s0 : Nat) (q : Nat) (g : Nat) (kp : Int32) (ns : Int32) (np : Int32) (fu : Int32) (fd : Int32) (fi : Int32) (sz_ : Nat → Int32) (pt : Nat → Int32) (fh : Nat → Int32) (kd : Nat → Int32) (nd : Nat → Int32) (fw : Nat → Int32) (ht : Nat → Int32) (wm : Nat → Int32) (se : Nat → Int32) (cd : Nat → Int32) (sl : Nat → Int32) (od : Nat → Int32) (ow : Nat → Int32) (lo : Int32) (mi : Int32) (sd : Int32) (x : Int32) (y : Int32) (T : Nat → Nat → Int) (Ns : Nat) (Np : Nat) (v : Nat → Int) (M : Int) (hv : (¬ x < 0 ∧ ¬ np ≤ x → (y = 0 → (vp_in x 8) ∧ ((kd x.toNatClampNeg).toInt = aPerson T Np v x.toInt y.toInt)) ∧ (y = 1 → (vp_in x 8) ∧ ((nd x.toNatClampNeg).toInt = aPerson T Np v x.toInt y.toInt)) ∧ (y = 2 → (vp_in x 8) ∧ ((wm x.toNatClampNeg).toInt = aPerson T Np v x.toInt y.toInt)) ∧ (y = 3 → (vp_in x 8) ∧ ((se x.toNatClampNeg).toInt = aPerson T Np v x.toInt y.toInt)) ∧ (y = 4 → (vp_in x 8) ∧ ((cd x.toNatClampNeg).toInt = aPerson T Np v x.toInt y.toInt)) ∧ (y = 5 → (vp_in x 8) ∧ ((sl x.toNatClampNeg).toInt = aPerson T Np v x.toInt y.toInt)) ∧ (y = 6 → (vp_in x 8) ∧ ((od x.toNatClampNeg).toInt = aPerson T Np v x.toInt y.toInt)) ∧ (¬ y = 0 ∧ ¬ y = 1 ∧ ¬ y = 2 ∧ ¬ y = 3 ∧ ¬ y = 4 ∧ ¬ y = 5 ∧ ¬ y = 6 → ((-1000000002) : Int32).toInt = aPerson T Np v x.toInt y.toInt)) ∧ (¬ (¬ x < 0 ∧ ¬ np ≤ x) → ((-1000000001) : Int32).toInt = aPerson T Np v x.toInt y.toInt)) : MetI l yX7_person wsX7_person 1 21 G [.ref h0, .int x, .int y] [(h0, .inr (7, [.ref e0, .ref t, .ref k, .ref n, .ref j, .ref i0, .int kp, .ref b0, .ref s0, .ref q, .ref g])), (t, .inr (6, [.int ns, .int np, .int fu, .int fd, .int fi, .ref t1, .ref t2, .ref t3, .ref t4, .ref t5, .ref t6])), aI G t1 9 sz_, aI G t2 9 pt, aI G t3 9 fh, aI G t4 8 kd, aI G t5 8 nd, aI G t6 8 fw, (n, .inr (1, [.ref n1, .ref n2, .ref n3, .ref n4, .ref n5, .ref n6, .ref n7, .int lo, .int mi, .int sd])), aI G n1 9 ht, aI G n2 8 wm, aI G n3 8 se, aI G n4 8 cd, aI G n5 8 sl, aI G n6 8 od, aI G n7 72 ow] sz (fun (r : Int32) (_ : Unit) => r.toInt = aPerson T Np v x.toInt y.toInt) (fun (_ : Unit) => [(h0, .inr (7, [.ref e0, .ref t, .ref k, .ref n, .ref j, .ref i0, .int kp, .ref b0, .ref s0, .ref q, .ref g])), (t, .inr (6, [.int ns, .int np, .int fu, .int fd, .int fi, .ref t1, .ref t2, .ref t3, .ref t4, .ref t5, .ref t6])), aI G t1 9 sz_, aI G t2 9 pt, aI G t3 9 fh, aI G t4 8 kd, aI G t5 8 nd, aI G t6 8 fw, (n, .inr (1, [.ref n1, .ref n2, .ref n3, .ref n4, .ref n5, .ref n6, .ref n7, .int lo, .int mi, .int sd])), aI G n1 9 ht, aI G n2 8 wm, aI G n3 8 se, aI G n4 8 cd, aI G n5 8 sl, aI G n6 8 od, aI G n7 72 ow]) := by
  refine x_startI (cc := cX7_person) (maxL := 3) (ret := (some .int)) (by decide) rfl (Nat.le_of_ble_eq_true rfl) ?_
  intro p e s m args below meth c A R Q ls hRf hRl hQ C hP hD hS hA hSS hl
  obtain ⟨hx, hb, hr, hml, hown, hts, hlocks, hKK⟩ := C
  have hown : s.vm.findClass RX7 = some m.cls := hown
  have hl : lv_has ls 3 [(0, .ref h0), (1, .int x), (2, .int y)] := hl
  have hinX1 : ∀ w ∈ u_ws RX1 TX1 10, w ∈ wsX7_person := by decide +kernel
  have hinX6 : ∀ w ∈ u_ws RX6 TX6 11, w ∈ wsX7_person := by decide +kernel
  have hinX7 : ∀ w ∈ u_ws RX7 TX7 11, w ∈ wsX7_person := by decide +kernel
  have kl124 := hts (.fieldLink RX7 124 "WarmStones$Night" "cold" "[I") (by decide +kernel)
  have kl135 := hts (.fieldLink RX7 135 "WarmStones$Night" "warmth" "[I") (by decide +kernel)
  have kl143 := hts (.constant RX7 143 (-1000000001)) (by decide +kernel)
  have kl157 := hts (.fieldLink RX7 157 "WarmStones$Town" "kind" "[I") (by decide +kernel)
  have kl160 := hts (.fieldLink RX7 160 "WarmStones$Town" "need" "[I") (by decide +kernel)
  have kl163 := hts (.fieldLink RX7 163 "WarmStones$Night" "seat" "[I") (by decide +kernel)
  have kl166 := hts (.fieldLink RX7 166 "WarmStones$Night" "stolen" "[I") (by decide +kernel)
  have kl169 := hts (.fieldLink RX7 169 "WarmStones$Night" "owed" "[I") (by decide +kernel)
  have kl19 := hts (.fieldLink RX7 19 "WarmStones" "town" "LWarmStones$Town;") (by decide +kernel)
  have kl29 := hts (.fieldLink RX7 29 "WarmStones" "night" "LWarmStones$Night;") (by decide +kernel)
  have kl72 := hts (.constant RX7 72 (-1000000002)) (by decide +kernel)
  refine lv_aload_n hx hb dX7_person_0 rfl (lv_at hl 0 rfl) ?_
  refine va_get (D := G.1) (ci := 7) (v := .ref t) (C := RX7) (T := TX7) (N := 11) hx hb hts hinX7 hown hKK.1 hP 0 rfl rfl 1 (by decide) kl19 (fun _ h9 => h9) rfl dX7_person_1 ?_
  refine lv_iload_n hx hb dX7_person_4 rfl (lv_at hl 1 rfl) ?_
  refine x_calliR (x_runV (As := [.int x]) (rest := []) (n := 1) (C := RX6) (ci := 6) ⟨hx, hb, hml, hown, hts⟩ (k_X6_hasPerson l G t t1 t2 t3 t4 t5 t6 _ ns np fu fd fi sz_ pt fh kd nd fw x) gX7_person_X6_hasPerson rfl (by decide +kernel) ⟨Nat.le_trans (Nat.le_of_ble_eq_true rfl) hRf, Nat.le_trans (Nat.le_of_ble_eq_true rfl) hRl⟩ hKK hSS hS hA hP hD [1, 2, 3, 4, 5, 6, 7] (by decide) rfl rfl rfl 1 rfl rfl hl.1 rfl (Nat.le_of_ble_eq_true rfl) dX7_person_5) hP hD hS hA [1, 2, 3, 4, 5, 6, 7] rfl (fun r_1 _ H locs hw hP hS => ?_)
  replace hw := hw.symm; subst hw
  refine lv_if_ne (tgt := 14) hx hb dX7_person_8 (by decide) (fun hc_2 => ?_) (fun hc_2 => ?_)
  · have hv := hv.1 (tv_eqn.mp hc_2)
    refine lv_iload_n hx hb dX7_person_14 rfl (lv_at hl 2 rfl) ?_
    by_cases hk_30 : y = 0
    · have hv := hv.1 hk_30
      refine lv_tableIn (off := 41) (tgt := 56) hx hb dX7_person_15 (by rw [hk_30]; decide) (by rw [hk_30]; decide) (by rw [hk_30]; decide) (by decide) ?_
      refine lv_aload_n hx hb dX7_person_56 rfl (lv_at hl 0 rfl) ?_
      refine va_get (D := G.1) (ci := 7) (v := .ref t) (C := RX7) (T := TX7) (N := 11) hx hb hts hinX7 hown hKK.1 hP 0 rfl rfl 1 (by decide) kl19 (fun _ h9 => h9) rfl dX7_person_57 ?_
      refine va_get (D := G.1) (ci := 6) (v := .ref t4) (C := RX6) (T := TX6) (N := 11) hx hb hts hinX6 hown hKK.1 hP 1 rfl rfl 8 (by decide) kl157 (fun _ h9 => h9) rfl dX7_person_60 ?_
      refine lv_iload_n hx hb dX7_person_63 rfl (lv_at hl 1 rfl) ?_
      obtain ⟨hin, hv⟩ := hv
      refine va_iald hx hb hKK.1 hP 5 0 rfl rfl hin dX7_person_64 ?_
      exact x_iret (v := (kd x.toNatClampNeg)) () hQ hx hb hr hlocks hS dX7_person_65 hv hP hD
    replace hv := hv.2
    by_cases hk_31 : y = 1
    · have hv := hv.1 hk_31
      refine lv_tableIn (off := 51) (tgt := 66) hx hb dX7_person_15 (by rw [hk_31]; decide) (by rw [hk_31]; decide) (by rw [hk_31]; decide) (by decide) ?_
      refine lv_aload_n hx hb dX7_person_66 rfl (lv_at hl 0 rfl) ?_
      refine va_get (D := G.1) (ci := 7) (v := .ref t) (C := RX7) (T := TX7) (N := 11) hx hb hts hinX7 hown hKK.1 hP 0 rfl rfl 1 (by decide) kl19 (fun _ h9 => h9) rfl dX7_person_67 ?_
      refine va_get (D := G.1) (ci := 6) (v := .ref t5) (C := RX6) (T := TX6) (N := 11) hx hb hts hinX6 hown hKK.1 hP 1 rfl rfl 9 (by decide) kl160 (fun _ h9 => h9) rfl dX7_person_70 ?_
      refine lv_iload_n hx hb dX7_person_73 rfl (lv_at hl 1 rfl) ?_
      obtain ⟨hin, hv⟩ := hv
      refine va_iald hx hb hKK.1 hP 6 0 rfl rfl hin dX7_person_74 ?_
      exact x_iret (v := (nd x.toNatClampNeg)) () hQ hx hb hr hlocks hS dX7_person_75 hv hP hD
    replace hv := hv.2
    by_cases hk_32 : y = 2
    · have hv := hv.1 hk_32
      refine lv_tableIn (off := 61) (tgt := 76) hx hb dX7_person_15 (by rw [hk_32]; decide) (by rw [hk_32]; decide) (by rw [hk_32]; decide) (by decide) ?_
      refine lv_aload_n hx hb dX7_person_76 rfl (lv_at hl 0 rfl) ?_
      refine va_get (D := G.1) (ci := 7) (v := .ref n) (C := RX7) (T := TX7) (N := 11) hx hb hts hinX7 hown hKK.1 hP 0 rfl rfl 3 (by decide) kl29 (fun _ h9 => h9) rfl dX7_person_77 ?_
      refine va_get (D := G.1) (ci := 1) (v := .ref n2) (C := RX1) (T := TX1) (N := 10) hx hb hts hinX1 hown hKK.1 hP 8 rfl rfl 1 (by decide) kl135 (fun _ h9 => h9) rfl dX7_person_80 ?_
      refine lv_iload_n hx hb dX7_person_83 rfl (lv_at hl 1 rfl) ?_
      obtain ⟨hin, hv⟩ := hv
      refine va_iald hx hb hKK.1 hP 10 0 rfl rfl hin dX7_person_84 ?_
      exact x_iret (v := (wm x.toNatClampNeg)) () hQ hx hb hr hlocks hS dX7_person_85 hv hP hD
    replace hv := hv.2
    by_cases hk_33 : y = 3
    · have hv := hv.1 hk_33
      refine lv_tableIn (off := 71) (tgt := 86) hx hb dX7_person_15 (by rw [hk_33]; decide) (by rw [hk_33]; decide) (by rw [hk_33]; decide) (by decide) ?_
      refine lv_aload_n hx hb dX7_person_86 rfl (lv_at hl 0 rfl) ?_
      refine va_get (D := G.1) (ci := 7) (v := .ref n) (C := RX7) (T := TX7) (N := 11) hx hb hts hinX7 hown hKK.1 hP 0 rfl rfl 3 (by decide) kl29 (fun _ h9 => h9) rfl dX7_person_87 ?_
      refine va_get (D := G.1) (ci := 1) (v := .ref n3) (C := RX1) (T := TX1) (N := 10) hx hb hts hinX1 hown hKK.1 hP 8 rfl rfl 2 (by decide) kl163 (fun _ h9 => h9) rfl dX7_person_90 ?_
      refine lv_iload_n hx hb dX7_person_93 rfl (lv_at hl 1 rfl) ?_
      obtain ⟨hin, hv⟩ := hv
      refine va_iald hx hb hKK.1 hP 11 0 rfl rfl hin dX7_person_94 ?_
      exact x_iret (v := (se x.toNatClampNeg)) () hQ hx hb hr hlocks hS dX7_person_95 hv hP hD
    replace hv := hv.2
    by_cases hk_34 : y = 4
    · have hv := hv.1 hk_34
      refine lv_tableIn (off := 81) (tgt := 96) hx hb dX7_person_15 (by rw [hk_34]; decide) (by rw [hk_34]; decide) (by rw [hk_34]; decide) (by decide) ?_
      refine lv_aload_n hx hb dX7_person_96 rfl (lv_at hl 0 rfl) ?_
      refine va_get (D := G.1) (ci := 7) (v := .ref n) (C := RX7) (T := TX7) (N := 11) hx hb hts hinX7 hown hKK.1 hP 0 rfl rfl 3 (by decide) kl29 (fun _ h9 => h9) rfl dX7_person_97 ?_
      refine va_get (D := G.1) (ci := 1) (v := .ref n4) (C := RX1) (T := TX1) (N := 10) hx hb hts hinX1 hown hKK.1 hP 8 rfl rfl 3 (by decide) kl124 (fun _ h9 => h9) rfl dX7_person_100 ?_
      refine lv_iload_n hx hb dX7_person_103 rfl (lv_at hl 1 rfl) ?_
      obtain ⟨hin, hv⟩ := hv
      refine va_iald hx hb hKK.1 hP 12 0 rfl rfl hin dX7_person_104 ?_
      exact x_iret (v := (cd x.toNatClampNeg)) () hQ hx hb hr hlocks hS dX7_person_105 hv hP hD
    replace hv := hv.2
    by_cases hk_35 : y = 5
    · have hv := hv.1 hk_35
      refine lv_tableIn (off := 91) (tgt := 106) hx hb dX7_person_15 (by rw [hk_35]; decide) (by rw [hk_35]; decide) (by rw [hk_35]; decide) (by decide) ?_
      refine lv_aload_n hx hb dX7_person_106 rfl (lv_at hl 0 rfl) ?_
      refine va_get (D := G.1) (ci := 7) (v := .ref n) (C := RX7) (T := TX7) (N := 11) hx hb hts hinX7 hown hKK.1 hP 0 rfl rfl 3 (by decide) kl29 (fun _ h9 => h9) rfl dX7_person_107 ?_
      refine va_get (D := G.1) (ci := 1) (v := .ref n5) (C := RX1) (T := TX1) (N := 10) hx hb hts hinX1 hown hKK.1 hP 8 rfl rfl 4 (by decide) kl166 (fun _ h9 => h9) rfl dX7_person_110 ?_
      refine lv_iload_n hx hb dX7_person_113 rfl (lv_at hl 1 rfl) ?_
      obtain ⟨hin, hv⟩ := hv
      refine va_iald hx hb hKK.1 hP 13 0 rfl rfl hin dX7_person_114 ?_
      exact x_iret (v := (sl x.toNatClampNeg)) () hQ hx hb hr hlocks hS dX7_person_115 hv hP hD
    replace hv := hv.2
    by_cases hk_36 : y = 6
    · have hv := hv.1 hk_36
      refine lv_tableIn (off := 101) (tgt := 116) hx hb dX7_person_15 (by rw [hk_36]; decide) (by rw [hk_36]; decide) (by rw [hk_36]; decide) (by decide) ?_
      refine lv_aload_n hx hb dX7_person_116 rfl (lv_at hl 0 rfl) ?_
      refine va_get (D := G.1) (ci := 7) (v := .ref n) (C := RX7) (T := TX7) (N := 11) hx hb hts hinX7 hown hKK.1 hP 0 rfl rfl 3 (by decide) kl29 (fun _ h9 => h9) rfl dX7_person_117 ?_
      refine va_get (D := G.1) (ci := 1) (v := .ref n6) (C := RX1) (T := TX1) (N := 10) hx hb hts hinX1 hown hKK.1 hP 8 rfl rfl 5 (by decide) kl169 (fun _ h9 => h9) rfl dX7_person_120 ?_
      refine lv_iload_n hx hb dX7_person_123 rfl (lv_at hl 1 rfl) ?_
      obtain ⟨hin, hv⟩ := hv
      refine va_iald hx hb hKK.1 hP 14 0 rfl rfl hin dX7_person_124 ?_
      exact x_iret (v := (od x.toNatClampNeg)) () hQ hx hb hr hlocks hS dX7_person_125 hv hP hD
    replace hv := hv.2
    have hv := hv ⟨hk_30, hk_31, hk_32, hk_33, hk_34, hk_35, hk_36⟩
    refine lv_tableOut (tgt := 126) hx hb dX7_person_15 (ts_out 6 (by decide) (ts_ne_all 6 ⟨⟨⟨⟨⟨⟨hk_30, hk_31⟩, hk_32⟩, hk_33⟩, hk_34⟩, hk_35⟩, hk_36⟩)) (by decide) ?_
    refine lv_ldc (v := (-1000000002)) hx hb hown kl72 dX7_person_126 ?_
    exact x_iret (v := (-1000000002)) () hQ hx hb hr hlocks hS dX7_person_128 hv hP hD
  · have hv := hv.2 (tv_eq.mp hc_2)
    refine lv_ldc (v := (-1000000001)) hx hb hown kl143 dX7_person_11 ?_
    exact x_iret (v := (-1000000001)) () hQ hx hb hr hlocks hS dX7_person_13 hv hP hD
theorem v_X7_person (l : Launch) (G : Gt) (h0 t t1 t2 t3 t4 t5 t6 n n1 n2 n3 n4 n5 n6 n7 : Nat) (sz : Nat) (e0 : Nat) (k : Nat) (j : Nat) (i0 : Nat) (b0 : Nat) (s0 : Nat) (q : Nat) (g : Nat) (kp : Int32) (ns : Int32) (np : Int32) (fu : Int32) (fd : Int32) (fi : Int32) (sz_ : Nat → Int32) (pt : Nat → Int32) (fh : Nat → Int32) (kd : Nat → Int32) (nd : Nat → Int32) (fw : Nat → Int32) (ht : Nat → Int32) (wm : Nat → Int32) (se : Nat → Int32) (cd : Nat → Int32) (sl : Nat → Int32) (od : Nat → Int32) (ow : Nat → Int32) (lo : Int32) (mi : Int32) (sd : Int32) (x : Int32) (y : Int32) (T : Nat → Nat → Int) (Ns : Nat) (Np : Nat) (v : Nat → Int) (M : Int) (hp : TOK T Ns Np ∧ CT T Ns Np ns np fu fd fi sz_ pt kd nd ∧ CN Ns Np v ht wm se cd sl od ow lo mi sd ∧ NOK T Ns Np (fun _ => 2 * M) M v ∧ M ≤ 900000) : (¬ x < 0 ∧ ¬ np ≤ x → (y = 0 → (vp_in x 8) ∧ ((kd x.toNatClampNeg).toInt = aPerson T Np v x.toInt y.toInt)) ∧ (y = 1 → (vp_in x 8) ∧ ((nd x.toNatClampNeg).toInt = aPerson T Np v x.toInt y.toInt)) ∧ (y = 2 → (vp_in x 8) ∧ ((wm x.toNatClampNeg).toInt = aPerson T Np v x.toInt y.toInt)) ∧ (y = 3 → (vp_in x 8) ∧ ((se x.toNatClampNeg).toInt = aPerson T Np v x.toInt y.toInt)) ∧ (y = 4 → (vp_in x 8) ∧ ((cd x.toNatClampNeg).toInt = aPerson T Np v x.toInt y.toInt)) ∧ (y = 5 → (vp_in x 8) ∧ ((sl x.toNatClampNeg).toInt = aPerson T Np v x.toInt y.toInt)) ∧ (y = 6 → (vp_in x 8) ∧ ((od x.toNatClampNeg).toInt = aPerson T Np v x.toInt y.toInt)) ∧ (¬ y = 0 ∧ ¬ y = 1 ∧ ¬ y = 2 ∧ ¬ y = 3 ∧ ¬ y = 4 ∧ ¬ y = 5 ∧ ¬ y = 6 → ((-1000000002) : Int32).toInt = aPerson T Np v x.toInt y.toInt)) ∧ (¬ (¬ x < 0 ∧ ¬ np ≤ x) → ((-1000000001) : Int32).toInt = aPerson T Np v x.toInt y.toInt) := by
  obtain ⟨hT, hC, hN, hO, hM⟩ := hp
  have t1 := hT.1
  have t2 := hT.2.1
  have hns : ns = nI Ns := hC.1
  have hnp : np = nI Np := hC.2.1
  have hp_ := hs_iff (x := x) hnp (by omega)
  simp only [hp_]
  refine ⟨fun hq => ?_, fun hq => by unfold aPerson; rw [if_neg hq]; rfl⟩
  obtain ⟨i, hi, rfl, hxi, hxt⟩ := in_nat hq (by omega)
  have ei : (nI i).toNatClampNeg = i := nI_clamp (by omega)
  have vi : vp_in (nI i) 8 := vp_in_nI (by omega) (by omega)
  simp only [ei]
  refine ⟨fun hy => ⟨vi, ?_⟩, fun hy => ⟨vi, ?_⟩, fun hy => ⟨vi, ?_⟩, fun hy => ⟨vi, ?_⟩, fun hy => ⟨vi, ?_⟩, fun hy => ⟨vi, ?_⟩, fun hy => ⟨vi, ?_⟩, ?_⟩
  · have hz : y.toInt = 0 := by rw [hy]; rfl
    simp only [aPerson, if_pos hq, hz, reduceIte, Int.reduceEq, hxt]
    exact (hC.2.2.2.1 i hi).1
  · have hz : y.toInt = 1 := by rw [hy]; rfl
    simp only [aPerson, if_pos hq, hz, reduceIte, Int.reduceEq, hxt]
    exact (hC.2.2.2.1 i hi).2
  · have hz : y.toInt = 2 := by rw [hy]; rfl
    simp only [aPerson, if_pos hq, hz, reduceIte, Int.reduceEq, hxt]
    exact hN.w t2 hi
  · have hz : y.toInt = 3 := by rw [hy]; rfl
    simp only [aPerson, if_pos hq, hz, reduceIte, Int.reduceEq, hxt]
    exact hN.s t2 hi
  · have hz : y.toInt = 4 := by rw [hy]; rfl
    simp only [aPerson, if_pos hq, hz, reduceIte, Int.reduceEq, hxt]
    exact hN.c t2 hi
  · have hz : y.toInt = 5 := by rw [hy]; rfl
    simp only [aPerson, if_pos hq, hz, reduceIte, Int.reduceEq, hxt]
    exact hN.l t2 hi
  · have hz : y.toInt = 6 := by rw [hy]; rfl
    simp only [aPerson, if_pos hq, hz, reduceIte, Int.reduceEq, hxt]
    exact hN.d t2 hi
  · rintro ⟨n0, n1, n2, n3, n4, n5, n6⟩
    unfold aPerson
    have N0 : ¬ y.toInt = 0 := ne_z n0; have N1 : ¬ y.toInt = 1 := ne_z n1; have N2 : ¬ y.toInt = 2 := ne_z n2; have N3 : ¬ y.toInt = 3 := ne_z n3; have N4 : ¬ y.toInt = 4 := ne_z n4; have N5 : ¬ y.toInt = 5 := ne_z n5; have N6 : ¬ y.toInt = 6 := ne_z n6
    rw [if_pos hq, if_neg N0, if_neg N1, if_neg N2, if_neg N3, if_neg N4, if_neg N5, if_neg N6]
    rfl
theorem k_X7_person (l : Launch) (G : Gt) (h0 t t1 t2 t3 t4 t5 t6 n n1 n2 n3 n4 n5 n6 n7 : Nat) (sz : Nat) (e0 : Nat) (k : Nat) (j : Nat) (i0 : Nat) (b0 : Nat) (s0 : Nat) (q : Nat) (g : Nat) (kp : Int32) (ns : Int32) (np : Int32) (fu : Int32) (fd : Int32) (fi : Int32) (sz_ : Nat → Int32) (pt : Nat → Int32) (fh : Nat → Int32) (kd : Nat → Int32) (nd : Nat → Int32) (fw : Nat → Int32) (ht : Nat → Int32) (wm : Nat → Int32) (se : Nat → Int32) (cd : Nat → Int32) (sl : Nat → Int32) (od : Nat → Int32) (ow : Nat → Int32) (lo : Int32) (mi : Int32) (sd : Int32) (x : Int32) (y : Int32) (T : Nat → Nat → Int) (Ns : Nat) (Np : Nat) (v : Nat → Int) (M : Int) (hp : TOK T Ns Np ∧ CT T Ns Np ns np fu fd fi sz_ pt kd nd ∧ CN Ns Np v ht wm se cd sl od ow lo mi sd ∧ NOK T Ns Np (fun _ => 2 * M) M v ∧ M ≤ 900000) : MetI l yX7_person wsX7_person 1 21 G [.ref h0, .int x, .int y] [(h0, .inr (7, [.ref e0, .ref t, .ref k, .ref n, .ref j, .ref i0, .int kp, .ref b0, .ref s0, .ref q, .ref g])), (t, .inr (6, [.int ns, .int np, .int fu, .int fd, .int fi, .ref t1, .ref t2, .ref t3, .ref t4, .ref t5, .ref t6])), aI G t1 9 sz_, aI G t2 9 pt, aI G t3 9 fh, aI G t4 8 kd, aI G t5 8 nd, aI G t6 8 fw, (n, .inr (1, [.ref n1, .ref n2, .ref n3, .ref n4, .ref n5, .ref n6, .ref n7, .int lo, .int mi, .int sd])), aI G n1 9 ht, aI G n2 8 wm, aI G n3 8 se, aI G n4 8 cd, aI G n5 8 sl, aI G n6 8 od, aI G n7 72 ow] sz (fun (r : Int32) (_ : Unit) => r.toInt = aPerson T Np v x.toInt y.toInt) (fun (_ : Unit) => [(h0, .inr (7, [.ref e0, .ref t, .ref k, .ref n, .ref j, .ref i0, .int kp, .ref b0, .ref s0, .ref q, .ref g])), (t, .inr (6, [.int ns, .int np, .int fu, .int fd, .int fi, .ref t1, .ref t2, .ref t3, .ref t4, .ref t5, .ref t6])), aI G t1 9 sz_, aI G t2 9 pt, aI G t3 9 fh, aI G t4 8 kd, aI G t5 8 nd, aI G t6 8 fw, (n, .inr (1, [.ref n1, .ref n2, .ref n3, .ref n4, .ref n5, .ref n6, .ref n7, .int lo, .int mi, .int sd])), aI G n1 9 ht, aI G n2 8 wm, aI G n3 8 se, aI G n4 8 cd, aI G n5 8 sl, aI G n6 8 od, aI G n7 72 ow]) :=
  c_X7_person l G h0 t t1 t2 t3 t4 t5 t6 n n1 n2 n3 n4 n5 n6 n7 sz e0 k j i0 b0 s0 q g kp ns np fu fd fi sz_ pt fh kd nd fw ht wm se cd sl od ow lo mi sd x y T Ns Np v M (v_X7_person l G h0 t t1 t2 t3 t4 t5 t6 n n1 n2 n3 n4 n5 n6 n7 sz e0 k j i0 b0 s0 q g kp ns np fu fd fi sz_ pt fh kd nd fw ht wm se cd sl od ow lo mi sd x y T Ns Np v M hp)

set_option maxHeartbeats 4000000 in
set_option maxRecDepth 100000 in
theorem c_X7_owned (l : Launch) (G : Gt) (h0 t t1 t2 t3 t4 t5 t6 n n1 n2 n3 n4 n5 n6 n7 : Nat) (sz : Nat) (e0 : Nat) (k : Nat) (j : Nat) (i0 : Nat) (b0 : Nat) (s0 : Nat) (q : Nat) (g : Nat) (kp : Int32) (ns : Int32) (np : Int32) (fu : Int32) (fd : Int32) (fi : Int32) (sz_ : Nat → Int32) (pt : Nat → Int32) (fh : Nat → Int32) (kd : Nat → Int32) (nd : Nat → Int32) (fw : Nat → Int32) (ht : Nat → Int32) (wm : Nat → Int32) (se : Nat → Int32) (cd : Nat → Int32) (sl : Nat → Int32) (od : Nat → Int32) (ow : Nat → Int32) (lo : Int32) (mi : Int32) (sd : Int32) (x : Int32) (y : Int32) (T : Nat → Nat → Int) (Ns : Nat) (Np : Nat) (v : Nat → Int) (M : Int) (hv : (¬ (¬ x < 0 ∧ ¬ np ≤ x) → ((-1000000001) : Int32).toInt = aOwned Ns Np v x.toInt y.toInt) ∧ (¬ x < 0 ∧ ¬ np ≤ x → (¬ y < 0 ∧ ¬ ns ≤ y → (vp_in (x * 9 + y) 72) ∧ ((ow (x * 9 + y).toNatClampNeg).toInt = aOwned Ns Np v x.toInt y.toInt)) ∧ (¬ (¬ y < 0 ∧ ¬ ns ≤ y) → ((-1000000001) : Int32).toInt = aOwned Ns Np v x.toInt y.toInt))) : MetI l yX7_owned wsX7_owned 1 21 G [.ref h0, .int x, .int y] [(h0, .inr (7, [.ref e0, .ref t, .ref k, .ref n, .ref j, .ref i0, .int kp, .ref b0, .ref s0, .ref q, .ref g])), (t, .inr (6, [.int ns, .int np, .int fu, .int fd, .int fi, .ref t1, .ref t2, .ref t3, .ref t4, .ref t5, .ref t6])), aI G t1 9 sz_, aI G t2 9 pt, aI G t3 9 fh, aI G t4 8 kd, aI G t5 8 nd, aI G t6 8 fw, (n, .inr (1, [.ref n1, .ref n2, .ref n3, .ref n4, .ref n5, .ref n6, .ref n7, .int lo, .int mi, .int sd])), aI G n1 9 ht, aI G n2 8 wm, aI G n3 8 se, aI G n4 8 cd, aI G n5 8 sl, aI G n6 8 od, aI G n7 72 ow] sz (fun (r : Int32) (_ : Unit) => r.toInt = aOwned Ns Np v x.toInt y.toInt) (fun (_ : Unit) => [(h0, .inr (7, [.ref e0, .ref t, .ref k, .ref n, .ref j, .ref i0, .int kp, .ref b0, .ref s0, .ref q, .ref g])), (t, .inr (6, [.int ns, .int np, .int fu, .int fd, .int fi, .ref t1, .ref t2, .ref t3, .ref t4, .ref t5, .ref t6])), aI G t1 9 sz_, aI G t2 9 pt, aI G t3 9 fh, aI G t4 8 kd, aI G t5 8 nd, aI G t6 8 fw, (n, .inr (1, [.ref n1, .ref n2, .ref n3, .ref n4, .ref n5, .ref n6, .ref n7, .int lo, .int mi, .int sd])), aI G n1 9 ht, aI G n2 8 wm, aI G n3 8 se, aI G n4 8 cd, aI G n5 8 sl, aI G n6 8 od, aI G n7 72 ow]) := by
  refine x_startI (cc := cX7_owned) (maxL := 3) (ret := (some .int)) (by decide) rfl (Nat.le_of_ble_eq_true rfl) ?_
  intro p e s m args below meth c A R Q ls hRf hRl hQ C hP hD hS hA hSS hl
  obtain ⟨hx, hb, hr, hml, hown, hts, hlocks, hKK⟩ := C
  have hown : s.vm.findClass RX7 = some m.cls := hown
  have hl : lv_has ls 3 [(0, .ref h0), (1, .int x), (2, .int y)] := hl
  have hinX1 : ∀ w ∈ u_ws RX1 TX1 10, w ∈ wsX7_owned := by decide +kernel
  have hinX7 : ∀ w ∈ u_ws RX7 TX7 11, w ∈ wsX7_owned := by decide +kernel
  have kl143 := hts (.constant RX7 143 (-1000000001)) (by decide +kernel)
  have kl172 := hts (.fieldLink RX7 172 "WarmStones$Night" "owned" "[I") (by decide +kernel)
  have kl19 := hts (.fieldLink RX7 19 "WarmStones" "town" "LWarmStones$Town;") (by decide +kernel)
  have kl29 := hts (.fieldLink RX7 29 "WarmStones" "night" "LWarmStones$Night;") (by decide +kernel)
  refine lv_aload_n hx hb dX7_owned_0 rfl (lv_at hl 0 rfl) ?_
  refine va_get (D := G.1) (ci := 7) (v := .ref t) (C := RX7) (T := TX7) (N := 11) hx hb hts hinX7 hown hKK.1 hP 0 rfl rfl 1 (by decide) kl19 (fun _ h9 => h9) rfl dX7_owned_1 ?_
  refine lv_iload_n hx hb dX7_owned_4 rfl (lv_at hl 1 rfl) ?_
  refine x_calliR (x_runV (As := [.int x]) (rest := []) (n := 1) (C := RX6) (ci := 6) ⟨hx, hb, hml, hown, hts⟩ (k_X6_hasPerson l G t t1 t2 t3 t4 t5 t6 _ ns np fu fd fi sz_ pt fh kd nd fw x) gX7_owned_X6_hasPerson rfl (by decide +kernel) ⟨Nat.le_trans (Nat.le_of_ble_eq_true rfl) hRf, Nat.le_trans (Nat.le_of_ble_eq_true rfl) hRl⟩ hKK hSS hS hA hP hD [1, 2, 3, 4, 5, 6, 7] (by decide) rfl rfl rfl 1 rfl rfl hl.1 rfl (Nat.le_of_ble_eq_true rfl) dX7_owned_5) hP hD hS hA [1, 2, 3, 4, 5, 6, 7] rfl (fun r_1 _ H locs hw hP hS => ?_)
  replace hw := hw.symm; subst hw
  refine lv_if_eq (tgt := 22) hx hb dX7_owned_8 (by decide) (fun hc_2 => ?_) (fun hc_2 => ?_)
  · have hv := hv.1 (tv_eq.mp hc_2)
    refine lv_ldc (v := (-1000000001)) hx hb hown kl143 dX7_owned_22 ?_
    exact x_iret (v := (-1000000001)) () hQ hx hb hr hlocks hS dX7_owned_24 hv hP hD
  · have hv := hv.2 (tv_eqn.mp hc_2)
    refine lv_aload_n hx hb dX7_owned_11 rfl (lv_at hl 0 rfl) ?_
    refine va_get (D := G.1) (ci := 7) (v := .ref t) (C := RX7) (T := TX7) (N := 11) hx hb hts hinX7 hown hKK.1 hP 0 rfl rfl 1 (by decide) kl19 (fun _ h9 => h9) rfl dX7_owned_12 ?_
    refine lv_iload_n hx hb dX7_owned_15 rfl (lv_at hl 2 rfl) ?_
    refine x_calliR (x_runV (As := [.int y]) (rest := []) (n := 1) (C := RX6) (ci := 6) ⟨hx, hb, hml, hown, hts⟩ (k_X6_hasStone l G t t1 t2 t3 t4 t5 t6 _ ns np fu fd fi sz_ pt fh kd nd fw y) gX7_owned_X6_hasStone rfl (by decide +kernel) ⟨Nat.le_trans (Nat.le_of_ble_eq_true rfl) hRf, Nat.le_trans (Nat.le_of_ble_eq_true rfl) hRl⟩ hKK hSS hS hA hP hD [1, 2, 3, 4, 5, 6, 7] (by decide) rfl rfl rfl 1 rfl rfl hl.1 rfl (Nat.le_of_ble_eq_true rfl) dX7_owned_16) hP hD hS hA [1, 2, 3, 4, 5, 6, 7] rfl (fun r_3 _ H locs hw hP hS => ?_)
    replace hw := hw.symm; subst hw
    refine lv_if_ne (tgt := 25) hx hb dX7_owned_19 (by decide) (fun hc_4 => ?_) (fun hc_4 => ?_)
    · have hv := hv.1 (tv_eqn.mp hc_4)
      refine lv_aload_n hx hb dX7_owned_25 rfl (lv_at hl 0 rfl) ?_
      refine va_get (D := G.1) (ci := 7) (v := .ref n) (C := RX7) (T := TX7) (N := 11) hx hb hts hinX7 hown hKK.1 hP 0 rfl rfl 3 (by decide) kl29 (fun _ h9 => h9) rfl dX7_owned_26 ?_
      refine va_get (D := G.1) (ci := 1) (v := .ref n7) (C := RX1) (T := TX1) (N := 10) hx hb hts hinX1 hown hKK.1 hP 8 rfl rfl 6 (by decide) kl172 (fun _ h9 => h9) rfl dX7_owned_29 ?_
      refine lv_iload_n hx hb dX7_owned_32 rfl (lv_at hl 1 rfl) ?_
      refine lv_iload_n hx hb dX7_owned_33 rfl (lv_at hl 2 rfl) ?_
      refine x_calliR (x_runS (As := [.int x, .int y]) (rest := [.ref n7]) (n := 2) ⟨hx, hb, hml, hown, hts⟩ (k_X7_ownedAt l G  _ x y) gX7_owned_X7_ownedAt rfl (by decide +kernel) ⟨Nat.le_trans (Nat.le_of_ble_eq_true rfl) hRf, Nat.le_trans (Nat.le_of_ble_eq_true rfl) hRl⟩ hKK hSS hS hA hP hD [] (by decide) rfl rfl hl.1 rfl (Nat.le_of_ble_eq_true rfl) dX7_owned_34) hP hD hS hA [] rfl (fun r_5 _ H locs hw hP hS => ?_)
      replace hw := hw.symm; subst hw
      obtain ⟨hin, hv⟩ := hv
      refine va_iald hx hb hKK.1 hP 15 0 rfl rfl hin dX7_owned_37 ?_
      exact x_iret (v := (ow (x * 9 + y).toNatClampNeg)) () hQ hx hb hr hlocks hS dX7_owned_38 hv hP hD
    · have hv := hv.2 (tv_eq.mp hc_4)
      refine lv_ldc (v := (-1000000001)) hx hb hown kl143 dX7_owned_22 ?_
      exact x_iret (v := (-1000000001)) () hQ hx hb hr hlocks hS dX7_owned_24 hv hP hD
theorem v_X7_owned (l : Launch) (G : Gt) (h0 t t1 t2 t3 t4 t5 t6 n n1 n2 n3 n4 n5 n6 n7 : Nat) (sz : Nat) (e0 : Nat) (k : Nat) (j : Nat) (i0 : Nat) (b0 : Nat) (s0 : Nat) (q : Nat) (g : Nat) (kp : Int32) (ns : Int32) (np : Int32) (fu : Int32) (fd : Int32) (fi : Int32) (sz_ : Nat → Int32) (pt : Nat → Int32) (fh : Nat → Int32) (kd : Nat → Int32) (nd : Nat → Int32) (fw : Nat → Int32) (ht : Nat → Int32) (wm : Nat → Int32) (se : Nat → Int32) (cd : Nat → Int32) (sl : Nat → Int32) (od : Nat → Int32) (ow : Nat → Int32) (lo : Int32) (mi : Int32) (sd : Int32) (x : Int32) (y : Int32) (T : Nat → Nat → Int) (Ns : Nat) (Np : Nat) (v : Nat → Int) (M : Int) (hp : TOK T Ns Np ∧ CT T Ns Np ns np fu fd fi sz_ pt kd nd ∧ CN Ns Np v ht wm se cd sl od ow lo mi sd ∧ NOK T Ns Np (fun _ => 2 * M) M v ∧ M ≤ 900000) : (¬ (¬ x < 0 ∧ ¬ np ≤ x) → ((-1000000001) : Int32).toInt = aOwned Ns Np v x.toInt y.toInt) ∧ (¬ x < 0 ∧ ¬ np ≤ x → (¬ y < 0 ∧ ¬ ns ≤ y → (vp_in (x * 9 + y) 72) ∧ ((ow (x * 9 + y).toNatClampNeg).toInt = aOwned Ns Np v x.toInt y.toInt)) ∧ (¬ (¬ y < 0 ∧ ¬ ns ≤ y) → ((-1000000001) : Int32).toInt = aOwned Ns Np v x.toInt y.toInt)) := by
  obtain ⟨hT, hC, hN, hO, hM⟩ := hp
  have t1 := hT.1
  have t2 := hT.2.1
  have hns : ns = nI Ns := hC.1
  have hnp : np = nI Np := hC.2.1
  have hp_ := hs_iff (x := x) hnp (by omega)
  have hs_ := hs_iff (x := y) hns (by omega)
  have e9 : ∀ i b : Nat, nI i * 9 + nI b = nI (9 * i + b) := fun i b => by rw [show (9 : Int32) = nI 9 from rfl, pk_mul, nI_add, Nat.mul_comm]
  simp only [hp_, hs_]
  refine ⟨fun hq => by unfold aOwned; rw [if_neg (fun q => hq q.1)]; rfl, fun hq => ⟨fun hq2 => ?_, fun hq2 => by unfold aOwned; rw [if_neg (fun q => hq2 q.2)]; rfl⟩⟩
  obtain ⟨i, hi, rfl, hxi, hxt⟩ := in_nat hq (by omega)
  obtain ⟨b, hb, rfl, hyb, hyt⟩ := in_nat hq2 (by omega)
  have c : (nI (9 * i + b)).toNatClampNeg = 9 * i + b := nI_clamp (by omega)
  simp only [e9, c]
  refine ⟨vp_in_nI (by omega) (by omega), ?_⟩
  unfold aOwned
  rw [if_pos ⟨hq, hq2⟩, hxt, hyt]
  exact hN.o t2 t1 hi hb
theorem k_X7_owned (l : Launch) (G : Gt) (h0 t t1 t2 t3 t4 t5 t6 n n1 n2 n3 n4 n5 n6 n7 : Nat) (sz : Nat) (e0 : Nat) (k : Nat) (j : Nat) (i0 : Nat) (b0 : Nat) (s0 : Nat) (q : Nat) (g : Nat) (kp : Int32) (ns : Int32) (np : Int32) (fu : Int32) (fd : Int32) (fi : Int32) (sz_ : Nat → Int32) (pt : Nat → Int32) (fh : Nat → Int32) (kd : Nat → Int32) (nd : Nat → Int32) (fw : Nat → Int32) (ht : Nat → Int32) (wm : Nat → Int32) (se : Nat → Int32) (cd : Nat → Int32) (sl : Nat → Int32) (od : Nat → Int32) (ow : Nat → Int32) (lo : Int32) (mi : Int32) (sd : Int32) (x : Int32) (y : Int32) (T : Nat → Nat → Int) (Ns : Nat) (Np : Nat) (v : Nat → Int) (M : Int) (hp : TOK T Ns Np ∧ CT T Ns Np ns np fu fd fi sz_ pt kd nd ∧ CN Ns Np v ht wm se cd sl od ow lo mi sd ∧ NOK T Ns Np (fun _ => 2 * M) M v ∧ M ≤ 900000) : MetI l yX7_owned wsX7_owned 1 21 G [.ref h0, .int x, .int y] [(h0, .inr (7, [.ref e0, .ref t, .ref k, .ref n, .ref j, .ref i0, .int kp, .ref b0, .ref s0, .ref q, .ref g])), (t, .inr (6, [.int ns, .int np, .int fu, .int fd, .int fi, .ref t1, .ref t2, .ref t3, .ref t4, .ref t5, .ref t6])), aI G t1 9 sz_, aI G t2 9 pt, aI G t3 9 fh, aI G t4 8 kd, aI G t5 8 nd, aI G t6 8 fw, (n, .inr (1, [.ref n1, .ref n2, .ref n3, .ref n4, .ref n5, .ref n6, .ref n7, .int lo, .int mi, .int sd])), aI G n1 9 ht, aI G n2 8 wm, aI G n3 8 se, aI G n4 8 cd, aI G n5 8 sl, aI G n6 8 od, aI G n7 72 ow] sz (fun (r : Int32) (_ : Unit) => r.toInt = aOwned Ns Np v x.toInt y.toInt) (fun (_ : Unit) => [(h0, .inr (7, [.ref e0, .ref t, .ref k, .ref n, .ref j, .ref i0, .int kp, .ref b0, .ref s0, .ref q, .ref g])), (t, .inr (6, [.int ns, .int np, .int fu, .int fd, .int fi, .ref t1, .ref t2, .ref t3, .ref t4, .ref t5, .ref t6])), aI G t1 9 sz_, aI G t2 9 pt, aI G t3 9 fh, aI G t4 8 kd, aI G t5 8 nd, aI G t6 8 fw, (n, .inr (1, [.ref n1, .ref n2, .ref n3, .ref n4, .ref n5, .ref n6, .ref n7, .int lo, .int mi, .int sd])), aI G n1 9 ht, aI G n2 8 wm, aI G n3 8 se, aI G n4 8 cd, aI G n5 8 sl, aI G n6 8 od, aI G n7 72 ow]) :=
  c_X7_owned l G h0 t t1 t2 t3 t4 t5 t6 n n1 n2 n3 n4 n5 n6 n7 sz e0 k j i0 b0 s0 q g kp ns np fu fd fi sz_ pt fh kd nd fw ht wm se cd sl od ow lo mi sd x y T Ns Np v M (v_X7_owned l G h0 t t1 t2 t3 t4 t5 t6 n n1 n2 n3 n4 n5 n6 n7 sz e0 k j i0 b0 s0 q g kp ns np fu fd fi sz_ pt fh kd nd fw ht wm se cd sl od ow lo mi sd x y T Ns Np v M hp)

set_option maxHeartbeats 4000000 in
set_option maxRecDepth 100000 in
theorem c_X7_sit (l : Launch) (G : Gt) (h0 t t1 t2 t3 t4 t5 t6 n n1 n2 n3 n4 n5 n6 n7 : Nat) (sz : Nat) (e0 : Nat) (k : Nat) (j : Nat) (i0 : Nat) (b0 : Nat) (s0 : Nat) (q : Nat) (g : Nat) (kp : Int32) (ns : Int32) (np : Int32) (fu : Int32) (fd : Int32) (fi : Int32) (sz_ : Nat → Int32) (pt : Nat → Int32) (fh : Nat → Int32) (kd : Nat → Int32) (nd : Nat → Int32) (fw : Nat → Int32) (ht : Nat → Int32) (wm : Nat → Int32) (se : Nat → Int32) (cd : Nat → Int32) (sl : Nat → Int32) (od : Nat → Int32) (ow : Nat → Int32) (lo : Int32) (mi : Int32) (sd : Int32) (x : Int32) (y : Int32) (T : Nat → Nat → Int) (Ns : Nat) (Np : Nat) (v : Nat → Int) (M : Int) (hv : (¬ (¬ x < 0 ∧ ¬ np ≤ x) → ((-1000000001) : Int32).toInt = (qSit Ns Np v x.toInt y.toInt).1 ∧ CN Ns Np (qSit Ns Np v x.toInt y.toInt).2 ht wm se cd sl od ow lo mi sd) ∧ (¬ x < 0 ∧ ¬ np ≤ x → (y = (-1) → (vp_in x 8) ∧ ((y = (-1) → (vp_in x 8) ∧ ((se x.toNatClampNeg).toInt = (qSit Ns Np v x.toInt y.toInt).1 ∧ CN Ns Np (qSit Ns Np v x.toInt y.toInt).2 ht wm (upd se x.toNatClampNeg y) cd sl od ow lo mi sd)) ∧ (¬ (y = (-1)) → (y = (se x.toNatClampNeg) → (vp_in x 8) ∧ ((se x.toNatClampNeg).toInt = (qSit Ns Np v x.toInt y.toInt).1 ∧ CN Ns Np (qSit Ns Np v x.toInt y.toInt).2 ht wm (upd se x.toNatClampNeg y) cd sl od ow lo mi sd)) ∧ (¬ (y = (se x.toNatClampNeg)) → ∃ (gNs_6 : Nat) (gNp_7 : Nat) (gv_8 : Nat → Int) (gib_9 : Nat), ((gNp_7 ≤ 8 ∧ CN gNs_6 gNp_7 gv_8 ht wm se cd sl od ow lo mi sd ∧ y = nI gib_9 ∧ (gib_9 < gNs_6 ∧ gNs_6 ≤ 9)) ∧ (∀ (r_10 : Int32), (r_10 = zSitter gv_8 gib_9 gNp_7 ∧ (r_10 = -1 ↔ zEmpty gv_8 gib_9 gNp_7)) → ((r_10 = (-1) → (vp_in x 8) ∧ ((se x.toNatClampNeg).toInt = (qSit Ns Np v x.toInt y.toInt).1 ∧ CN Ns Np (qSit Ns Np v x.toInt y.toInt).2 ht wm (upd se x.toNatClampNeg y) cd sl od ow lo mi sd)) ∧ (¬ (r_10 = (-1)) → ((-1000000003) : Int32).toInt = (qSit Ns Np v x.toInt y.toInt).1 ∧ CN Ns Np (qSit Ns Np v x.toInt y.toInt).2 ht wm se cd sl od ow lo mi sd)))))))) ∧ (¬ (y = (-1)) → (¬ y < 0 ∧ ¬ ns ≤ y → (vp_in x 8) ∧ ((y = (-1) → (vp_in x 8) ∧ ((se x.toNatClampNeg).toInt = (qSit Ns Np v x.toInt y.toInt).1 ∧ CN Ns Np (qSit Ns Np v x.toInt y.toInt).2 ht wm (upd se x.toNatClampNeg y) cd sl od ow lo mi sd)) ∧ (¬ (y = (-1)) → (y = (se x.toNatClampNeg) → (vp_in x 8) ∧ ((se x.toNatClampNeg).toInt = (qSit Ns Np v x.toInt y.toInt).1 ∧ CN Ns Np (qSit Ns Np v x.toInt y.toInt).2 ht wm (upd se x.toNatClampNeg y) cd sl od ow lo mi sd)) ∧ (¬ (y = (se x.toNatClampNeg)) → ∃ (gNs_16 : Nat) (gNp_17 : Nat) (gv_18 : Nat → Int) (gib_19 : Nat), ((gNp_17 ≤ 8 ∧ CN gNs_16 gNp_17 gv_18 ht wm se cd sl od ow lo mi sd ∧ y = nI gib_19 ∧ (gib_19 < gNs_16 ∧ gNs_16 ≤ 9)) ∧ (∀ (r_20 : Int32), (r_20 = zSitter gv_18 gib_19 gNp_17 ∧ (r_20 = -1 ↔ zEmpty gv_18 gib_19 gNp_17)) → ((r_20 = (-1) → (vp_in x 8) ∧ ((se x.toNatClampNeg).toInt = (qSit Ns Np v x.toInt y.toInt).1 ∧ CN Ns Np (qSit Ns Np v x.toInt y.toInt).2 ht wm (upd se x.toNatClampNeg y) cd sl od ow lo mi sd)) ∧ (¬ (r_20 = (-1)) → ((-1000000003) : Int32).toInt = (qSit Ns Np v x.toInt y.toInt).1 ∧ CN Ns Np (qSit Ns Np v x.toInt y.toInt).2 ht wm se cd sl od ow lo mi sd)))))))) ∧ (¬ (¬ y < 0 ∧ ¬ ns ≤ y) → ((-1000000001) : Int32).toInt = (qSit Ns Np v x.toInt y.toInt).1 ∧ CN Ns Np (qSit Ns Np v x.toInt y.toInt).2 ht wm se cd sl od ow lo mi sd)))) : MetI l yX7_sit wsX7_sit 1 22 G [.ref h0, .int x, .int y] [(h0, .inr (7, [.ref e0, .ref t, .ref k, .ref n, .ref j, .ref i0, .int kp, .ref b0, .ref s0, .ref q, .ref g])), (t, .inr (6, [.int ns, .int np, .int fu, .int fd, .int fi, .ref t1, .ref t2, .ref t3, .ref t4, .ref t5, .ref t6])), aI G t1 9 sz_, aI G t2 9 pt, aI G t3 9 fh, aI G t4 8 kd, aI G t5 8 nd, aI G t6 8 fw, (n, .inr (1, [.ref n1, .ref n2, .ref n3, .ref n4, .ref n5, .ref n6, .ref n7, .int lo, .int mi, .int sd])), aI G n1 9 ht, aI G n2 8 wm, aI G n3 8 se, aI G n4 8 cd, aI G n5 8 sl, aI G n6 8 od, aI G n7 72 ow] sz (fun (r : Int32) (u : (Nat → Int32)) => r.toInt = (qSit Ns Np v x.toInt y.toInt).1 ∧ CN Ns Np (qSit Ns Np v x.toInt y.toInt).2 ht wm u cd sl od ow lo mi sd) (fun (u : (Nat → Int32)) => [(h0, .inr (7, [.ref e0, .ref t, .ref k, .ref n, .ref j, .ref i0, .int kp, .ref b0, .ref s0, .ref q, .ref g])), (t, .inr (6, [.int ns, .int np, .int fu, .int fd, .int fi, .ref t1, .ref t2, .ref t3, .ref t4, .ref t5, .ref t6])), aI G t1 9 sz_, aI G t2 9 pt, aI G t3 9 fh, aI G t4 8 kd, aI G t5 8 nd, aI G t6 8 fw, (n, .inr (1, [.ref n1, .ref n2, .ref n3, .ref n4, .ref n5, .ref n6, .ref n7, .int lo, .int mi, .int sd])), aI G n1 9 ht, aI G n2 8 wm, aI G n3 8 u, aI G n4 8 cd, aI G n5 8 sl, aI G n6 8 od, aI G n7 72 ow]) := by
  refine x_startI (cc := cX7_sit) (maxL := 4) (ret := (some .int)) (by decide) rfl (Nat.le_of_ble_eq_true rfl) ?_
  intro p e s m args below meth c A R Q ls hRf hRl hQ C hP hD hS hA hSS hl
  obtain ⟨hx, hb, hr, hml, hown, hts, hlocks, hKK⟩ := C
  have hown : s.vm.findClass RX7 = some m.cls := hown
  have hl : lv_has ls 4 [(0, .ref h0), (1, .int x), (2, .int y)] := hl
  have hinX1 : ∀ w ∈ u_ws RX1 TX1 10, w ∈ wsX7_sit := by decide +kernel
  have hinX7 : ∀ w ∈ u_ws RX7 TX7 11, w ∈ wsX7_sit := by decide +kernel
  have kl143 := hts (.constant RX7 143 (-1000000001)) (by decide +kernel)
  have kl163 := hts (.fieldLink RX7 163 "WarmStones$Night" "seat" "[I") (by decide +kernel)
  have kl179 := hts (.constant RX7 179 (-1000000003)) (by decide +kernel)
  have kl19 := hts (.fieldLink RX7 19 "WarmStones" "town" "LWarmStones$Town;") (by decide +kernel)
  have kl29 := hts (.fieldLink RX7 29 "WarmStones" "night" "LWarmStones$Night;") (by decide +kernel)
  refine lv_aload_n hx hb dX7_sit_0 rfl (lv_at hl 0 rfl) ?_
  refine va_get (D := G.1) (ci := 7) (v := .ref t) (C := RX7) (T := TX7) (N := 11) hx hb hts hinX7 hown hKK.1 hP 0 rfl rfl 1 (by decide) kl19 (fun _ h9 => h9) rfl dX7_sit_1 ?_
  refine lv_iload_n hx hb dX7_sit_4 rfl (lv_at hl 1 rfl) ?_
  refine x_calliR (x_runV (As := [.int x]) (rest := []) (n := 1) (C := RX6) (ci := 6) ⟨hx, hb, hml, hown, hts⟩ (k_X6_hasPerson l G t t1 t2 t3 t4 t5 t6 _ ns np fu fd fi sz_ pt fh kd nd fw x) gX7_sit_X6_hasPerson rfl (by decide +kernel) ⟨Nat.le_trans (Nat.le_of_ble_eq_true rfl) hRf, Nat.le_trans (Nat.le_of_ble_eq_true rfl) hRl⟩ hKK hSS hS hA hP hD [1, 2, 3, 4, 5, 6, 7] (by decide) rfl rfl rfl 1 rfl rfl hl.1 rfl (Nat.le_of_ble_eq_true rfl) dX7_sit_5) hP hD hS hA [1, 2, 3, 4, 5, 6, 7] rfl (fun r_1 _ H locs hw hP hS => ?_)
  replace hw := hw.symm; subst hw
  refine lv_if_eq (tgt := 27) hx hb dX7_sit_8 (by decide) (fun hc_2 => ?_) (fun hc_2 => ?_)
  · have hv := hv.1 (tv_eq.mp hc_2)
    refine lv_ldc (v := (-1000000001)) hx hb hown kl143 dX7_sit_27 ?_
    exact x_iret (v := (-1000000001)) se hQ hx hb hr hlocks hS dX7_sit_29 hv hP hD
  · have hv := hv.2 (tv_eqn.mp hc_2)
    refine lv_iload_n hx hb dX7_sit_11 rfl (lv_at hl 2 rfl) ?_
    refine lv_iconst (v := (-1)) hx hb dX7_sit_12 (by decide) ?_
    refine lv_icmp_eq (tgt := 30) hx hb dX7_sit_13 (by decide) (fun hc_3 => ?_) (fun hc_3 => ?_)
    · have hv := hv.1 hc_3
      refine lv_aload_n hx hb dX7_sit_30 rfl (lv_at hl 0 rfl) ?_
      refine va_get (D := G.1) (ci := 7) (v := .ref n) (C := RX7) (T := TX7) (N := 11) hx hb hts hinX7 hown hKK.1 hP 0 rfl rfl 3 (by decide) kl29 (fun _ h9 => h9) rfl dX7_sit_31 ?_
      refine va_get (D := G.1) (ci := 1) (v := .ref n3) (C := RX1) (T := TX1) (N := 10) hx hb hts hinX1 hown hKK.1 hP 8 rfl rfl 2 (by decide) kl163 (fun _ h9 => h9) rfl dX7_sit_34 ?_
      refine lv_iload_n hx hb dX7_sit_37 rfl (lv_at hl 1 rfl) ?_
      obtain ⟨hin, hv⟩ := hv
      refine va_iald hx hb hKK.1 hP 11 0 rfl rfl hin dX7_sit_38 ?_
      refine lv_istore_n (lv' := [(3, .int (se x.toNatClampNeg)), (0, .ref h0), (1, .int x), (2, .int y)]) hx hb dX7_sit_39 rfl hl (by decide) rfl (fun ls hl => ?_)
      refine lv_iload_n hx hb dX7_sit_40 rfl (lv_at hl 3 rfl) ?_
      refine lv_iconst (v := (-1)) hx hb dX7_sit_41 (by decide) ?_
      refine lv_icmp_eq (tgt := 65) hx hb dX7_sit_42 (by decide) (fun hc_4 => ?_) (fun hc_4 => ?_)
      · have hv := hv.1 hc_4
        refine lv_aload_n hx hb dX7_sit_65 rfl (lv_at hl 1 rfl) ?_
        refine va_get (D := G.1) (ci := 7) (v := .ref n) (C := RX7) (T := TX7) (N := 11) hx hb hts hinX7 hown hKK.1 hP 0 rfl rfl 3 (by decide) kl29 (fun _ h9 => h9) rfl dX7_sit_66 ?_
        refine va_get (D := G.1) (ci := 1) (v := .ref n3) (C := RX1) (T := TX1) (N := 10) hx hb hts hinX1 hown hKK.1 hP 8 rfl rfl 2 (by decide) kl163 (fun _ h9 => h9) rfl dX7_sit_69 ?_
        refine lv_iload_n hx hb dX7_sit_72 rfl (lv_at hl 2 rfl) ?_
        refine lv_iload_n hx hb dX7_sit_73 rfl (lv_at hl 3 rfl) ?_
        obtain ⟨hin, hv⟩ := hv
        refine va_iast hx hb hKK.1 hP hD hS 11 0 rfl rfl hin dX7_sit_74 (fun H locs hP hD hS => ?_)
        have hP : va_P G.1 vwCl [(h0, .inr (7, [.ref e0, .ref t, .ref k, .ref n, .ref j, .ref i0, .int kp, .ref b0, .ref s0, .ref q, .ref g])), (t, .inr (6, [.int ns, .int np, .int fu, .int fd, .int fi, .ref t1, .ref t2, .ref t3, .ref t4, .ref t5, .ref t6])), aI G t1 9 sz_, aI G t2 9 pt, aI G t3 9 fh, aI G t4 8 kd, aI G t5 8 nd, aI G t6 8 fw, (n, .inr (1, [.ref n1, .ref n2, .ref n3, .ref n4, .ref n5, .ref n6, .ref n7, .int lo, .int mi, .int sd])), aI G n1 9 ht, aI G n2 8 wm, aI G n3 8 (upd se x.toNatClampNeg y), aI G n4 8 cd, aI G n5 8 sl, aI G n6 8 od, aI G n7 72 ow] H := hP
        have hD : va_D A [(h0, .inr (7, [.ref e0, .ref t, .ref k, .ref n, .ref j, .ref i0, .int kp, .ref b0, .ref s0, .ref q, .ref g])), (t, .inr (6, [.int ns, .int np, .int fu, .int fd, .int fi, .ref t1, .ref t2, .ref t3, .ref t4, .ref t5, .ref t6])), aI G t1 9 sz_, aI G t2 9 pt, aI G t3 9 fh, aI G t4 8 kd, aI G t5 8 nd, aI G t6 8 fw, (n, .inr (1, [.ref n1, .ref n2, .ref n3, .ref n4, .ref n5, .ref n6, .ref n7, .int lo, .int mi, .int sd])), aI G n1 9 ht, aI G n2 8 wm, aI G n3 8 (upd se x.toNatClampNeg y), aI G n4 8 cd, aI G n5 8 sl, aI G n6 8 od, aI G n7 72 ow] := hD
        refine lv_iload_n hx hb dX7_sit_75 rfl (lv_at hl 0 rfl) ?_
        exact x_iret (v := (se x.toNatClampNeg)) (upd se x.toNatClampNeg y) hQ hx hb hr hlocks hS dX7_sit_76 hv hP hD
      · have hv := hv.2 hc_4
        refine lv_iload_n hx hb dX7_sit_45 rfl (lv_at hl 3 rfl) ?_
        refine lv_iload_n hx hb dX7_sit_46 rfl (lv_at hl 0 rfl) ?_
        refine lv_icmp_eq (tgt := 65) hx hb dX7_sit_47 (by decide) (fun hc_5 => ?_) (fun hc_5 => ?_)
        · have hv := hv.1 hc_5
          refine lv_aload_n hx hb dX7_sit_65 rfl (lv_at hl 1 rfl) ?_
          refine va_get (D := G.1) (ci := 7) (v := .ref n) (C := RX7) (T := TX7) (N := 11) hx hb hts hinX7 hown hKK.1 hP 0 rfl rfl 3 (by decide) kl29 (fun _ h9 => h9) rfl dX7_sit_66 ?_
          refine va_get (D := G.1) (ci := 1) (v := .ref n3) (C := RX1) (T := TX1) (N := 10) hx hb hts hinX1 hown hKK.1 hP 8 rfl rfl 2 (by decide) kl163 (fun _ h9 => h9) rfl dX7_sit_69 ?_
          refine lv_iload_n hx hb dX7_sit_72 rfl (lv_at hl 2 rfl) ?_
          refine lv_iload_n hx hb dX7_sit_73 rfl (lv_at hl 3 rfl) ?_
          obtain ⟨hin, hv⟩ := hv
          refine va_iast hx hb hKK.1 hP hD hS 11 0 rfl rfl hin dX7_sit_74 (fun H locs hP hD hS => ?_)
          have hP : va_P G.1 vwCl [(h0, .inr (7, [.ref e0, .ref t, .ref k, .ref n, .ref j, .ref i0, .int kp, .ref b0, .ref s0, .ref q, .ref g])), (t, .inr (6, [.int ns, .int np, .int fu, .int fd, .int fi, .ref t1, .ref t2, .ref t3, .ref t4, .ref t5, .ref t6])), aI G t1 9 sz_, aI G t2 9 pt, aI G t3 9 fh, aI G t4 8 kd, aI G t5 8 nd, aI G t6 8 fw, (n, .inr (1, [.ref n1, .ref n2, .ref n3, .ref n4, .ref n5, .ref n6, .ref n7, .int lo, .int mi, .int sd])), aI G n1 9 ht, aI G n2 8 wm, aI G n3 8 (upd se x.toNatClampNeg y), aI G n4 8 cd, aI G n5 8 sl, aI G n6 8 od, aI G n7 72 ow] H := hP
          have hD : va_D A [(h0, .inr (7, [.ref e0, .ref t, .ref k, .ref n, .ref j, .ref i0, .int kp, .ref b0, .ref s0, .ref q, .ref g])), (t, .inr (6, [.int ns, .int np, .int fu, .int fd, .int fi, .ref t1, .ref t2, .ref t3, .ref t4, .ref t5, .ref t6])), aI G t1 9 sz_, aI G t2 9 pt, aI G t3 9 fh, aI G t4 8 kd, aI G t5 8 nd, aI G t6 8 fw, (n, .inr (1, [.ref n1, .ref n2, .ref n3, .ref n4, .ref n5, .ref n6, .ref n7, .int lo, .int mi, .int sd])), aI G n1 9 ht, aI G n2 8 wm, aI G n3 8 (upd se x.toNatClampNeg y), aI G n4 8 cd, aI G n5 8 sl, aI G n6 8 od, aI G n7 72 ow] := hD
          refine lv_iload_n hx hb dX7_sit_75 rfl (lv_at hl 0 rfl) ?_
          exact x_iret (v := (se x.toNatClampNeg)) (upd se x.toNatClampNeg y) hQ hx hb hr hlocks hS dX7_sit_76 hv hP hD
        · have hv := hv.2 hc_5
          refine lv_aload_n hx hb dX7_sit_50 rfl (lv_at hl 1 rfl) ?_
          refine va_get (D := G.1) (ci := 7) (v := .ref n) (C := RX7) (T := TX7) (N := 11) hx hb hts hinX7 hown hKK.1 hP 0 rfl rfl 3 (by decide) kl29 (fun _ h9 => h9) rfl dX7_sit_51 ?_
          refine lv_iload_n hx hb dX7_sit_54 rfl (lv_at hl 3 rfl) ?_
          obtain ⟨gNs_6, gNp_7, gv_8, gib_9, hv⟩ := hv
          obtain ⟨hp, hv⟩ := hv
          refine x_calliR (x_runV (As := [.int y]) (rest := []) (n := 1) (C := RX1) (ci := 1) ⟨hx, hb, hml, hown, hts⟩ (k_X1_sitterOn l G n n1 n2 n3 n4 n5 n6 n7 _ ht wm se cd sl od ow lo mi sd y gNs_6 gNp_7 gv_8 gib_9 hp) gX7_sit_X1_sitterOn rfl (by decide +kernel) ⟨Nat.le_trans (Nat.le_of_ble_eq_true rfl) hRf, Nat.le_trans (Nat.le_of_ble_eq_true rfl) hRl⟩ hKK hSS hS hA hP hD [8, 9, 10, 11, 12, 13, 14, 15] (by decide) rfl rfl rfl 8 rfl rfl hl.1 rfl (Nat.le_of_ble_eq_true rfl) dX7_sit_55) hP hD hS hA [8, 9, 10, 11, 12, 13, 14, 15] rfl (fun r_10 _ H locs hw hP hS => ?_)
          have hv := hv r_10 hw
          refine lv_iconst (v := (-1)) hx hb dX7_sit_58 (by decide) ?_
          refine lv_icmp_eq (tgt := 65) hx hb dX7_sit_59 (by decide) (fun hc_11 => ?_) (fun hc_11 => ?_)
          · have hv := hv.1 hc_11
            refine lv_aload_n hx hb dX7_sit_65 rfl (lv_at hl 1 rfl) ?_
            refine va_get (D := G.1) (ci := 7) (v := .ref n) (C := RX7) (T := TX7) (N := 11) hx hb hts hinX7 hown hKK.1 hP 0 rfl rfl 3 (by decide) kl29 (fun _ h9 => h9) rfl dX7_sit_66 ?_
            refine va_get (D := G.1) (ci := 1) (v := .ref n3) (C := RX1) (T := TX1) (N := 10) hx hb hts hinX1 hown hKK.1 hP 8 rfl rfl 2 (by decide) kl163 (fun _ h9 => h9) rfl dX7_sit_69 ?_
            refine lv_iload_n hx hb dX7_sit_72 rfl (lv_at hl 2 rfl) ?_
            refine lv_iload_n hx hb dX7_sit_73 rfl (lv_at hl 3 rfl) ?_
            obtain ⟨hin, hv⟩ := hv
            refine va_iast hx hb hKK.1 hP hD hS 11 0 rfl rfl hin dX7_sit_74 (fun H locs hP hD hS => ?_)
            have hP : va_P G.1 vwCl [(h0, .inr (7, [.ref e0, .ref t, .ref k, .ref n, .ref j, .ref i0, .int kp, .ref b0, .ref s0, .ref q, .ref g])), (t, .inr (6, [.int ns, .int np, .int fu, .int fd, .int fi, .ref t1, .ref t2, .ref t3, .ref t4, .ref t5, .ref t6])), aI G t1 9 sz_, aI G t2 9 pt, aI G t3 9 fh, aI G t4 8 kd, aI G t5 8 nd, aI G t6 8 fw, (n, .inr (1, [.ref n1, .ref n2, .ref n3, .ref n4, .ref n5, .ref n6, .ref n7, .int lo, .int mi, .int sd])), aI G n1 9 ht, aI G n2 8 wm, aI G n3 8 (upd se x.toNatClampNeg y), aI G n4 8 cd, aI G n5 8 sl, aI G n6 8 od, aI G n7 72 ow] H := hP
            have hD : va_D A [(h0, .inr (7, [.ref e0, .ref t, .ref k, .ref n, .ref j, .ref i0, .int kp, .ref b0, .ref s0, .ref q, .ref g])), (t, .inr (6, [.int ns, .int np, .int fu, .int fd, .int fi, .ref t1, .ref t2, .ref t3, .ref t4, .ref t5, .ref t6])), aI G t1 9 sz_, aI G t2 9 pt, aI G t3 9 fh, aI G t4 8 kd, aI G t5 8 nd, aI G t6 8 fw, (n, .inr (1, [.ref n1, .ref n2, .ref n3, .ref n4, .ref n5, .ref n6, .ref n7, .int lo, .int mi, .int sd])), aI G n1 9 ht, aI G n2 8 wm, aI G n3 8 (upd se x.toNatClampNeg y), aI G n4 8 cd, aI G n5 8 sl, aI G n6 8 od, aI G n7 72 ow] := hD
            refine lv_iload_n hx hb dX7_sit_75 rfl (lv_at hl 0 rfl) ?_
            exact x_iret (v := (se x.toNatClampNeg)) (upd se x.toNatClampNeg y) hQ hx hb hr hlocks hS dX7_sit_76 hv hP hD
          · have hv := hv.2 hc_11
            refine lv_ldc (v := (-1000000003)) hx hb hown kl179 dX7_sit_62 ?_
            exact x_iret (v := (-1000000003)) se hQ hx hb hr hlocks hS dX7_sit_64 hv hP hD
    · have hv := hv.2 hc_3
      refine lv_aload_n hx hb dX7_sit_16 rfl (lv_at hl 0 rfl) ?_
      refine va_get (D := G.1) (ci := 7) (v := .ref t) (C := RX7) (T := TX7) (N := 11) hx hb hts hinX7 hown hKK.1 hP 0 rfl rfl 1 (by decide) kl19 (fun _ h9 => h9) rfl dX7_sit_17 ?_
      refine lv_iload_n hx hb dX7_sit_20 rfl (lv_at hl 2 rfl) ?_
      refine x_calliR (x_runV (As := [.int y]) (rest := []) (n := 1) (C := RX6) (ci := 6) ⟨hx, hb, hml, hown, hts⟩ (k_X6_hasStone l G t t1 t2 t3 t4 t5 t6 _ ns np fu fd fi sz_ pt fh kd nd fw y) gX7_sit_X6_hasStone rfl (by decide +kernel) ⟨Nat.le_trans (Nat.le_of_ble_eq_true rfl) hRf, Nat.le_trans (Nat.le_of_ble_eq_true rfl) hRl⟩ hKK hSS hS hA hP hD [1, 2, 3, 4, 5, 6, 7] (by decide) rfl rfl rfl 1 rfl rfl hl.1 rfl (Nat.le_of_ble_eq_true rfl) dX7_sit_21) hP hD hS hA [1, 2, 3, 4, 5, 6, 7] rfl (fun r_12 _ H locs hw hP hS => ?_)
      replace hw := hw.symm; subst hw
      refine lv_if_ne (tgt := 30) hx hb dX7_sit_24 (by decide) (fun hc_13 => ?_) (fun hc_13 => ?_)
      · have hv := hv.1 (tv_eqn.mp hc_13)
        refine lv_aload_n hx hb dX7_sit_30 rfl (lv_at hl 0 rfl) ?_
        refine va_get (D := G.1) (ci := 7) (v := .ref n) (C := RX7) (T := TX7) (N := 11) hx hb hts hinX7 hown hKK.1 hP 0 rfl rfl 3 (by decide) kl29 (fun _ h9 => h9) rfl dX7_sit_31 ?_
        refine va_get (D := G.1) (ci := 1) (v := .ref n3) (C := RX1) (T := TX1) (N := 10) hx hb hts hinX1 hown hKK.1 hP 8 rfl rfl 2 (by decide) kl163 (fun _ h9 => h9) rfl dX7_sit_34 ?_
        refine lv_iload_n hx hb dX7_sit_37 rfl (lv_at hl 1 rfl) ?_
        obtain ⟨hin, hv⟩ := hv
        refine va_iald hx hb hKK.1 hP 11 0 rfl rfl hin dX7_sit_38 ?_
        refine lv_istore_n (lv' := [(3, .int (se x.toNatClampNeg)), (0, .ref h0), (1, .int x), (2, .int y)]) hx hb dX7_sit_39 rfl hl (by decide) rfl (fun ls hl => ?_)
        refine lv_iload_n hx hb dX7_sit_40 rfl (lv_at hl 3 rfl) ?_
        refine lv_iconst (v := (-1)) hx hb dX7_sit_41 (by decide) ?_
        refine lv_icmp_eq (tgt := 65) hx hb dX7_sit_42 (by decide) (fun hc_14 => ?_) (fun hc_14 => ?_)
        · have hv := hv.1 hc_14
          refine lv_aload_n hx hb dX7_sit_65 rfl (lv_at hl 1 rfl) ?_
          refine va_get (D := G.1) (ci := 7) (v := .ref n) (C := RX7) (T := TX7) (N := 11) hx hb hts hinX7 hown hKK.1 hP 0 rfl rfl 3 (by decide) kl29 (fun _ h9 => h9) rfl dX7_sit_66 ?_
          refine va_get (D := G.1) (ci := 1) (v := .ref n3) (C := RX1) (T := TX1) (N := 10) hx hb hts hinX1 hown hKK.1 hP 8 rfl rfl 2 (by decide) kl163 (fun _ h9 => h9) rfl dX7_sit_69 ?_
          refine lv_iload_n hx hb dX7_sit_72 rfl (lv_at hl 2 rfl) ?_
          refine lv_iload_n hx hb dX7_sit_73 rfl (lv_at hl 3 rfl) ?_
          obtain ⟨hin, hv⟩ := hv
          refine va_iast hx hb hKK.1 hP hD hS 11 0 rfl rfl hin dX7_sit_74 (fun H locs hP hD hS => ?_)
          have hP : va_P G.1 vwCl [(h0, .inr (7, [.ref e0, .ref t, .ref k, .ref n, .ref j, .ref i0, .int kp, .ref b0, .ref s0, .ref q, .ref g])), (t, .inr (6, [.int ns, .int np, .int fu, .int fd, .int fi, .ref t1, .ref t2, .ref t3, .ref t4, .ref t5, .ref t6])), aI G t1 9 sz_, aI G t2 9 pt, aI G t3 9 fh, aI G t4 8 kd, aI G t5 8 nd, aI G t6 8 fw, (n, .inr (1, [.ref n1, .ref n2, .ref n3, .ref n4, .ref n5, .ref n6, .ref n7, .int lo, .int mi, .int sd])), aI G n1 9 ht, aI G n2 8 wm, aI G n3 8 (upd se x.toNatClampNeg y), aI G n4 8 cd, aI G n5 8 sl, aI G n6 8 od, aI G n7 72 ow] H := hP
          have hD : va_D A [(h0, .inr (7, [.ref e0, .ref t, .ref k, .ref n, .ref j, .ref i0, .int kp, .ref b0, .ref s0, .ref q, .ref g])), (t, .inr (6, [.int ns, .int np, .int fu, .int fd, .int fi, .ref t1, .ref t2, .ref t3, .ref t4, .ref t5, .ref t6])), aI G t1 9 sz_, aI G t2 9 pt, aI G t3 9 fh, aI G t4 8 kd, aI G t5 8 nd, aI G t6 8 fw, (n, .inr (1, [.ref n1, .ref n2, .ref n3, .ref n4, .ref n5, .ref n6, .ref n7, .int lo, .int mi, .int sd])), aI G n1 9 ht, aI G n2 8 wm, aI G n3 8 (upd se x.toNatClampNeg y), aI G n4 8 cd, aI G n5 8 sl, aI G n6 8 od, aI G n7 72 ow] := hD
          refine lv_iload_n hx hb dX7_sit_75 rfl (lv_at hl 0 rfl) ?_
          exact x_iret (v := (se x.toNatClampNeg)) (upd se x.toNatClampNeg y) hQ hx hb hr hlocks hS dX7_sit_76 hv hP hD
        · have hv := hv.2 hc_14
          refine lv_iload_n hx hb dX7_sit_45 rfl (lv_at hl 3 rfl) ?_
          refine lv_iload_n hx hb dX7_sit_46 rfl (lv_at hl 0 rfl) ?_
          refine lv_icmp_eq (tgt := 65) hx hb dX7_sit_47 (by decide) (fun hc_15 => ?_) (fun hc_15 => ?_)
          · have hv := hv.1 hc_15
            refine lv_aload_n hx hb dX7_sit_65 rfl (lv_at hl 1 rfl) ?_
            refine va_get (D := G.1) (ci := 7) (v := .ref n) (C := RX7) (T := TX7) (N := 11) hx hb hts hinX7 hown hKK.1 hP 0 rfl rfl 3 (by decide) kl29 (fun _ h9 => h9) rfl dX7_sit_66 ?_
            refine va_get (D := G.1) (ci := 1) (v := .ref n3) (C := RX1) (T := TX1) (N := 10) hx hb hts hinX1 hown hKK.1 hP 8 rfl rfl 2 (by decide) kl163 (fun _ h9 => h9) rfl dX7_sit_69 ?_
            refine lv_iload_n hx hb dX7_sit_72 rfl (lv_at hl 2 rfl) ?_
            refine lv_iload_n hx hb dX7_sit_73 rfl (lv_at hl 3 rfl) ?_
            obtain ⟨hin, hv⟩ := hv
            refine va_iast hx hb hKK.1 hP hD hS 11 0 rfl rfl hin dX7_sit_74 (fun H locs hP hD hS => ?_)
            have hP : va_P G.1 vwCl [(h0, .inr (7, [.ref e0, .ref t, .ref k, .ref n, .ref j, .ref i0, .int kp, .ref b0, .ref s0, .ref q, .ref g])), (t, .inr (6, [.int ns, .int np, .int fu, .int fd, .int fi, .ref t1, .ref t2, .ref t3, .ref t4, .ref t5, .ref t6])), aI G t1 9 sz_, aI G t2 9 pt, aI G t3 9 fh, aI G t4 8 kd, aI G t5 8 nd, aI G t6 8 fw, (n, .inr (1, [.ref n1, .ref n2, .ref n3, .ref n4, .ref n5, .ref n6, .ref n7, .int lo, .int mi, .int sd])), aI G n1 9 ht, aI G n2 8 wm, aI G n3 8 (upd se x.toNatClampNeg y), aI G n4 8 cd, aI G n5 8 sl, aI G n6 8 od, aI G n7 72 ow] H := hP
            have hD : va_D A [(h0, .inr (7, [.ref e0, .ref t, .ref k, .ref n, .ref j, .ref i0, .int kp, .ref b0, .ref s0, .ref q, .ref g])), (t, .inr (6, [.int ns, .int np, .int fu, .int fd, .int fi, .ref t1, .ref t2, .ref t3, .ref t4, .ref t5, .ref t6])), aI G t1 9 sz_, aI G t2 9 pt, aI G t3 9 fh, aI G t4 8 kd, aI G t5 8 nd, aI G t6 8 fw, (n, .inr (1, [.ref n1, .ref n2, .ref n3, .ref n4, .ref n5, .ref n6, .ref n7, .int lo, .int mi, .int sd])), aI G n1 9 ht, aI G n2 8 wm, aI G n3 8 (upd se x.toNatClampNeg y), aI G n4 8 cd, aI G n5 8 sl, aI G n6 8 od, aI G n7 72 ow] := hD
            refine lv_iload_n hx hb dX7_sit_75 rfl (lv_at hl 0 rfl) ?_
            exact x_iret (v := (se x.toNatClampNeg)) (upd se x.toNatClampNeg y) hQ hx hb hr hlocks hS dX7_sit_76 hv hP hD
          · have hv := hv.2 hc_15
            refine lv_aload_n hx hb dX7_sit_50 rfl (lv_at hl 1 rfl) ?_
            refine va_get (D := G.1) (ci := 7) (v := .ref n) (C := RX7) (T := TX7) (N := 11) hx hb hts hinX7 hown hKK.1 hP 0 rfl rfl 3 (by decide) kl29 (fun _ h9 => h9) rfl dX7_sit_51 ?_
            refine lv_iload_n hx hb dX7_sit_54 rfl (lv_at hl 3 rfl) ?_
            obtain ⟨gNs_16, gNp_17, gv_18, gib_19, hv⟩ := hv
            obtain ⟨hp, hv⟩ := hv
            refine x_calliR (x_runV (As := [.int y]) (rest := []) (n := 1) (C := RX1) (ci := 1) ⟨hx, hb, hml, hown, hts⟩ (k_X1_sitterOn l G n n1 n2 n3 n4 n5 n6 n7 _ ht wm se cd sl od ow lo mi sd y gNs_16 gNp_17 gv_18 gib_19 hp) gX7_sit_X1_sitterOn rfl (by decide +kernel) ⟨Nat.le_trans (Nat.le_of_ble_eq_true rfl) hRf, Nat.le_trans (Nat.le_of_ble_eq_true rfl) hRl⟩ hKK hSS hS hA hP hD [8, 9, 10, 11, 12, 13, 14, 15] (by decide) rfl rfl rfl 8 rfl rfl hl.1 rfl (Nat.le_of_ble_eq_true rfl) dX7_sit_55) hP hD hS hA [8, 9, 10, 11, 12, 13, 14, 15] rfl (fun r_20 _ H locs hw hP hS => ?_)
            have hv := hv r_20 hw
            refine lv_iconst (v := (-1)) hx hb dX7_sit_58 (by decide) ?_
            refine lv_icmp_eq (tgt := 65) hx hb dX7_sit_59 (by decide) (fun hc_21 => ?_) (fun hc_21 => ?_)
            · have hv := hv.1 hc_21
              refine lv_aload_n hx hb dX7_sit_65 rfl (lv_at hl 1 rfl) ?_
              refine va_get (D := G.1) (ci := 7) (v := .ref n) (C := RX7) (T := TX7) (N := 11) hx hb hts hinX7 hown hKK.1 hP 0 rfl rfl 3 (by decide) kl29 (fun _ h9 => h9) rfl dX7_sit_66 ?_
              refine va_get (D := G.1) (ci := 1) (v := .ref n3) (C := RX1) (T := TX1) (N := 10) hx hb hts hinX1 hown hKK.1 hP 8 rfl rfl 2 (by decide) kl163 (fun _ h9 => h9) rfl dX7_sit_69 ?_
              refine lv_iload_n hx hb dX7_sit_72 rfl (lv_at hl 2 rfl) ?_
              refine lv_iload_n hx hb dX7_sit_73 rfl (lv_at hl 3 rfl) ?_
              obtain ⟨hin, hv⟩ := hv
              refine va_iast hx hb hKK.1 hP hD hS 11 0 rfl rfl hin dX7_sit_74 (fun H locs hP hD hS => ?_)
              have hP : va_P G.1 vwCl [(h0, .inr (7, [.ref e0, .ref t, .ref k, .ref n, .ref j, .ref i0, .int kp, .ref b0, .ref s0, .ref q, .ref g])), (t, .inr (6, [.int ns, .int np, .int fu, .int fd, .int fi, .ref t1, .ref t2, .ref t3, .ref t4, .ref t5, .ref t6])), aI G t1 9 sz_, aI G t2 9 pt, aI G t3 9 fh, aI G t4 8 kd, aI G t5 8 nd, aI G t6 8 fw, (n, .inr (1, [.ref n1, .ref n2, .ref n3, .ref n4, .ref n5, .ref n6, .ref n7, .int lo, .int mi, .int sd])), aI G n1 9 ht, aI G n2 8 wm, aI G n3 8 (upd se x.toNatClampNeg y), aI G n4 8 cd, aI G n5 8 sl, aI G n6 8 od, aI G n7 72 ow] H := hP
              have hD : va_D A [(h0, .inr (7, [.ref e0, .ref t, .ref k, .ref n, .ref j, .ref i0, .int kp, .ref b0, .ref s0, .ref q, .ref g])), (t, .inr (6, [.int ns, .int np, .int fu, .int fd, .int fi, .ref t1, .ref t2, .ref t3, .ref t4, .ref t5, .ref t6])), aI G t1 9 sz_, aI G t2 9 pt, aI G t3 9 fh, aI G t4 8 kd, aI G t5 8 nd, aI G t6 8 fw, (n, .inr (1, [.ref n1, .ref n2, .ref n3, .ref n4, .ref n5, .ref n6, .ref n7, .int lo, .int mi, .int sd])), aI G n1 9 ht, aI G n2 8 wm, aI G n3 8 (upd se x.toNatClampNeg y), aI G n4 8 cd, aI G n5 8 sl, aI G n6 8 od, aI G n7 72 ow] := hD
              refine lv_iload_n hx hb dX7_sit_75 rfl (lv_at hl 0 rfl) ?_
              exact x_iret (v := (se x.toNatClampNeg)) (upd se x.toNatClampNeg y) hQ hx hb hr hlocks hS dX7_sit_76 hv hP hD
            · have hv := hv.2 hc_21
              refine lv_ldc (v := (-1000000003)) hx hb hown kl179 dX7_sit_62 ?_
              exact x_iret (v := (-1000000003)) se hQ hx hb hr hlocks hS dX7_sit_64 hv hP hD
      · have hv := hv.2 (tv_eq.mp hc_13)
        refine lv_ldc (v := (-1000000001)) hx hb hown kl143 dX7_sit_27 ?_
        exact x_iret (v := (-1000000001)) se hQ hx hb hr hlocks hS dX7_sit_29 hv hP hD
theorem v_X7_sit (l : Launch) (G : Gt) (h0 t t1 t2 t3 t4 t5 t6 n n1 n2 n3 n4 n5 n6 n7 : Nat) (sz : Nat) (e0 : Nat) (k : Nat) (j : Nat) (i0 : Nat) (b0 : Nat) (s0 : Nat) (q : Nat) (g : Nat) (kp : Int32) (ns : Int32) (np : Int32) (fu : Int32) (fd : Int32) (fi : Int32) (sz_ : Nat → Int32) (pt : Nat → Int32) (fh : Nat → Int32) (kd : Nat → Int32) (nd : Nat → Int32) (fw : Nat → Int32) (ht : Nat → Int32) (wm : Nat → Int32) (se : Nat → Int32) (cd : Nat → Int32) (sl : Nat → Int32) (od : Nat → Int32) (ow : Nat → Int32) (lo : Int32) (mi : Int32) (sd : Int32) (x : Int32) (y : Int32) (T : Nat → Nat → Int) (Ns : Nat) (Np : Nat) (v : Nat → Int) (M : Int) (hp : TOK T Ns Np ∧ CT T Ns Np ns np fu fd fi sz_ pt kd nd ∧ CN Ns Np v ht wm se cd sl od ow lo mi sd ∧ NOK T Ns Np (fun _ => 2 * M) M v ∧ M ≤ 900000) : (¬ (¬ x < 0 ∧ ¬ np ≤ x) → ((-1000000001) : Int32).toInt = (qSit Ns Np v x.toInt y.toInt).1 ∧ CN Ns Np (qSit Ns Np v x.toInt y.toInt).2 ht wm se cd sl od ow lo mi sd) ∧ (¬ x < 0 ∧ ¬ np ≤ x → (y = (-1) → (vp_in x 8) ∧ ((y = (-1) → (vp_in x 8) ∧ ((se x.toNatClampNeg).toInt = (qSit Ns Np v x.toInt y.toInt).1 ∧ CN Ns Np (qSit Ns Np v x.toInt y.toInt).2 ht wm (upd se x.toNatClampNeg y) cd sl od ow lo mi sd)) ∧ (¬ (y = (-1)) → (y = (se x.toNatClampNeg) → (vp_in x 8) ∧ ((se x.toNatClampNeg).toInt = (qSit Ns Np v x.toInt y.toInt).1 ∧ CN Ns Np (qSit Ns Np v x.toInt y.toInt).2 ht wm (upd se x.toNatClampNeg y) cd sl od ow lo mi sd)) ∧ (¬ (y = (se x.toNatClampNeg)) → ∃ (gNs_6 : Nat) (gNp_7 : Nat) (gv_8 : Nat → Int) (gib_9 : Nat), ((gNp_7 ≤ 8 ∧ CN gNs_6 gNp_7 gv_8 ht wm se cd sl od ow lo mi sd ∧ y = nI gib_9 ∧ (gib_9 < gNs_6 ∧ gNs_6 ≤ 9)) ∧ (∀ (r_10 : Int32), (r_10 = zSitter gv_8 gib_9 gNp_7 ∧ (r_10 = -1 ↔ zEmpty gv_8 gib_9 gNp_7)) → ((r_10 = (-1) → (vp_in x 8) ∧ ((se x.toNatClampNeg).toInt = (qSit Ns Np v x.toInt y.toInt).1 ∧ CN Ns Np (qSit Ns Np v x.toInt y.toInt).2 ht wm (upd se x.toNatClampNeg y) cd sl od ow lo mi sd)) ∧ (¬ (r_10 = (-1)) → ((-1000000003) : Int32).toInt = (qSit Ns Np v x.toInt y.toInt).1 ∧ CN Ns Np (qSit Ns Np v x.toInt y.toInt).2 ht wm se cd sl od ow lo mi sd)))))))) ∧ (¬ (y = (-1)) → (¬ y < 0 ∧ ¬ ns ≤ y → (vp_in x 8) ∧ ((y = (-1) → (vp_in x 8) ∧ ((se x.toNatClampNeg).toInt = (qSit Ns Np v x.toInt y.toInt).1 ∧ CN Ns Np (qSit Ns Np v x.toInt y.toInt).2 ht wm (upd se x.toNatClampNeg y) cd sl od ow lo mi sd)) ∧ (¬ (y = (-1)) → (y = (se x.toNatClampNeg) → (vp_in x 8) ∧ ((se x.toNatClampNeg).toInt = (qSit Ns Np v x.toInt y.toInt).1 ∧ CN Ns Np (qSit Ns Np v x.toInt y.toInt).2 ht wm (upd se x.toNatClampNeg y) cd sl od ow lo mi sd)) ∧ (¬ (y = (se x.toNatClampNeg)) → ∃ (gNs_16 : Nat) (gNp_17 : Nat) (gv_18 : Nat → Int) (gib_19 : Nat), ((gNp_17 ≤ 8 ∧ CN gNs_16 gNp_17 gv_18 ht wm se cd sl od ow lo mi sd ∧ y = nI gib_19 ∧ (gib_19 < gNs_16 ∧ gNs_16 ≤ 9)) ∧ (∀ (r_20 : Int32), (r_20 = zSitter gv_18 gib_19 gNp_17 ∧ (r_20 = -1 ↔ zEmpty gv_18 gib_19 gNp_17)) → ((r_20 = (-1) → (vp_in x 8) ∧ ((se x.toNatClampNeg).toInt = (qSit Ns Np v x.toInt y.toInt).1 ∧ CN Ns Np (qSit Ns Np v x.toInt y.toInt).2 ht wm (upd se x.toNatClampNeg y) cd sl od ow lo mi sd)) ∧ (¬ (r_20 = (-1)) → ((-1000000003) : Int32).toInt = (qSit Ns Np v x.toInt y.toInt).1 ∧ CN Ns Np (qSit Ns Np v x.toInt y.toInt).2 ht wm se cd sl od ow lo mi sd)))))))) ∧ (¬ (¬ y < 0 ∧ ¬ ns ≤ y) → ((-1000000001) : Int32).toInt = (qSit Ns Np v x.toInt y.toInt).1 ∧ CN Ns Np (qSit Ns Np v x.toInt y.toInt).2 ht wm se cd sl od ow lo mi sd))) := by
  obtain ⟨hT, hC, hN, hO, hM⟩ := hp
  have t1 := hT.1
  have t2 := hT.2.1
  have hns : ns = nI Ns := hC.1
  have hnp : np = nI Np := hC.2.1
  have hp_ := hs_iff (x := x) hnp (by omega)
  have hs_ := hs_iff (x := y) hns (by omega)
  have hy1 : y = -1 ↔ y.toInt = -1 := i_eq rfl rfl
  simp only [hp_, hs_]
  refine ⟨fun h1 => ?_, fun h1 => ?_⟩
  · rw [qSit, if_pos (Or.inl h1)]; exact ⟨rfl, hN⟩
  obtain ⟨i, hi, rfl, hxi, hxt⟩ := in_nat h1 (by omega)
  have ei : (nI i).toNatClampNeg = i := nI_clamp (by omega)
  have vi : vp_in (nI i) 8 := vp_in_nI (by omega) (by omega)
  simp only [ei]
  have b := nok_p hO hi
  have es := hN.s t2 hi
  have leaf : qSit Ns Np v (nI i).toInt y.toInt = (v (20 + i), uz v (20 + i) y.toInt) → vp_in (nI i) 8 ∧ ((se i).toInt = (qSit Ns Np v (nI i).toInt y.toInt).1 ∧ CN Ns Np (qSit Ns Np v (nI i).toInt y.toInt).2 ht wm (upd se i y) cd sl od ow lo mi sd) := fun e => by
    rw [e]; exact ⟨vi, es, CN_seat hN t2 hi rfl⟩
  refine ⟨fun h2 => ⟨vi, fun _ => leaf ?_, fun h3 => absurd h2 h3⟩, fun h2 => ⟨fun h3 => ⟨vi, fun h4 => absurd h4 h2, fun _ => ?_⟩, fun h3 => ?_⟩⟩
  · have z := hy1.mp h2
    rw [qSit, if_neg (fun q => q.elim (fun q => q h1) (fun q => q.1 z)), if_neg (fun q => by have := q.1; omega), hxt]
  · obtain ⟨c, hc, rfl, hyc, hyt⟩ := in_nat h3 (by omega)
    have n1 : ¬ (¬ (0 ≤ (nI i).toInt ∧ (nI i).toInt < Np) ∨ ((nI c).toInt ≠ -1 ∧ ¬ (0 ≤ (nI c).toInt ∧ (nI c).toInt < Ns))) := fun q => q.elim (fun q => q h1) (fun q => q.2 h3)
    have heq : nI c = se i ↔ (c : Int) = v (20 + i) := i_eq hyc es
    refine ⟨fun h4 => leaf ?_, fun h4 => ⟨Ns, Np, v, c, ⟨t2, hN, rfl, by omega⟩, fun r hr => ⟨fun h5 => leaf ?_, fun h5 => ?_⟩⟩⟩
    · have z := heq.mp h4
      rw [qSit, if_neg n1, hyt, hxt]
      rcases zFirst_cases v c Np with ⟨q1, q2⟩ | ⟨p, q1, q2, q3, q4⟩
      · exact absurd q1 (zEmpty_not z.symm hi)
      · have e : p = i := by
          by_cases e : p = i
          · exact e
          · have := hO.2.2.1 p i q1 hi e (by omega)
            omega
        subst e
        rw [q2, if_neg (fun q => q.2.2 rfl)]
    · rw [qSit, if_neg n1, hyt, hxt, zFirst_none (hr.2.mp h5), if_neg (fun q => q.2.1 rfl)]
    · rcases zFirst_cases v c Np with ⟨q1, q2⟩ | ⟨p, q1, q2, q3, q4⟩
      · exact absurd (hr.2.mpr q1) h5
      · have e : p ≠ i := fun z => by
          subst z
          exact h4 (heq.mpr q3.symm)
        rw [qSit, if_neg n1, hyt, hxt, q2, if_pos ⟨h3.1, Option.some_ne_none p, fun z => e (Option.some.inj z)⟩]
        exact ⟨rfl, hN⟩
  · rw [qSit, if_pos (Or.inr ⟨fun z => h2 (hy1.mpr z), h3⟩)]; exact ⟨rfl, hN⟩
theorem k_X7_sit (l : Launch) (G : Gt) (h0 t t1 t2 t3 t4 t5 t6 n n1 n2 n3 n4 n5 n6 n7 : Nat) (sz : Nat) (e0 : Nat) (k : Nat) (j : Nat) (i0 : Nat) (b0 : Nat) (s0 : Nat) (q : Nat) (g : Nat) (kp : Int32) (ns : Int32) (np : Int32) (fu : Int32) (fd : Int32) (fi : Int32) (sz_ : Nat → Int32) (pt : Nat → Int32) (fh : Nat → Int32) (kd : Nat → Int32) (nd : Nat → Int32) (fw : Nat → Int32) (ht : Nat → Int32) (wm : Nat → Int32) (se : Nat → Int32) (cd : Nat → Int32) (sl : Nat → Int32) (od : Nat → Int32) (ow : Nat → Int32) (lo : Int32) (mi : Int32) (sd : Int32) (x : Int32) (y : Int32) (T : Nat → Nat → Int) (Ns : Nat) (Np : Nat) (v : Nat → Int) (M : Int) (hp : TOK T Ns Np ∧ CT T Ns Np ns np fu fd fi sz_ pt kd nd ∧ CN Ns Np v ht wm se cd sl od ow lo mi sd ∧ NOK T Ns Np (fun _ => 2 * M) M v ∧ M ≤ 900000) : MetI l yX7_sit wsX7_sit 1 22 G [.ref h0, .int x, .int y] [(h0, .inr (7, [.ref e0, .ref t, .ref k, .ref n, .ref j, .ref i0, .int kp, .ref b0, .ref s0, .ref q, .ref g])), (t, .inr (6, [.int ns, .int np, .int fu, .int fd, .int fi, .ref t1, .ref t2, .ref t3, .ref t4, .ref t5, .ref t6])), aI G t1 9 sz_, aI G t2 9 pt, aI G t3 9 fh, aI G t4 8 kd, aI G t5 8 nd, aI G t6 8 fw, (n, .inr (1, [.ref n1, .ref n2, .ref n3, .ref n4, .ref n5, .ref n6, .ref n7, .int lo, .int mi, .int sd])), aI G n1 9 ht, aI G n2 8 wm, aI G n3 8 se, aI G n4 8 cd, aI G n5 8 sl, aI G n6 8 od, aI G n7 72 ow] sz (fun (r : Int32) (u : (Nat → Int32)) => r.toInt = (qSit Ns Np v x.toInt y.toInt).1 ∧ CN Ns Np (qSit Ns Np v x.toInt y.toInt).2 ht wm u cd sl od ow lo mi sd) (fun (u : (Nat → Int32)) => [(h0, .inr (7, [.ref e0, .ref t, .ref k, .ref n, .ref j, .ref i0, .int kp, .ref b0, .ref s0, .ref q, .ref g])), (t, .inr (6, [.int ns, .int np, .int fu, .int fd, .int fi, .ref t1, .ref t2, .ref t3, .ref t4, .ref t5, .ref t6])), aI G t1 9 sz_, aI G t2 9 pt, aI G t3 9 fh, aI G t4 8 kd, aI G t5 8 nd, aI G t6 8 fw, (n, .inr (1, [.ref n1, .ref n2, .ref n3, .ref n4, .ref n5, .ref n6, .ref n7, .int lo, .int mi, .int sd])), aI G n1 9 ht, aI G n2 8 wm, aI G n3 8 u, aI G n4 8 cd, aI G n5 8 sl, aI G n6 8 od, aI G n7 72 ow]) :=
  c_X7_sit l G h0 t t1 t2 t3 t4 t5 t6 n n1 n2 n3 n4 n5 n6 n7 sz e0 k j i0 b0 s0 q g kp ns np fu fd fi sz_ pt fh kd nd fw ht wm se cd sl od ow lo mi sd x y T Ns Np v M (v_X7_sit l G h0 t t1 t2 t3 t4 t5 t6 n n1 n2 n3 n4 n5 n6 n7 sz e0 k j i0 b0 s0 q g kp ns np fu fd fi sz_ pt fh kd nd fw ht wm se cd sl od ow lo mi sd x y T Ns Np v M hp)

set_option maxHeartbeats 4000000 in
set_option maxRecDepth 100000 in
theorem c_X7_go (l : Launch) (G : Gt) (h0 t t1 t2 t3 t4 t5 t6 n n1 n2 n3 n4 n5 n6 n7 : Nat) (sz : Nat) (e0 : Nat) (k : Nat) (j : Nat) (i0 : Nat) (b0 : Nat) (s0 : Nat) (q : Nat) (g : Nat) (kp : Int32) (ns : Int32) (np : Int32) (fu : Int32) (fd : Int32) (fi : Int32) (sz_ : Nat → Int32) (pt : Nat → Int32) (fh : Nat → Int32) (kd : Nat → Int32) (nd : Nat → Int32) (fw : Nat → Int32) (ht : Nat → Int32) (wm : Nat → Int32) (se : Nat → Int32) (cd : Nat → Int32) (sl : Nat → Int32) (od : Nat → Int32) (ow : Nat → Int32) (lo : Int32) (mi : Int32) (sd : Int32) (x : Int32) (T : Nat → Nat → Int) (Ns : Nat) (Np : Nat) (v : Nat → Int) (M : Int) (hv : (¬ x < 1 ∧ ¬ 999 < x → ∃ (I18_13 : (Nat → Int32) → (Nat → Int32) → (Nat → Int32) → (Nat → Int32) → (Nat → Int32) → (Nat → Int32) → Int32 → Int32 → Int32 → Int32 → Prop) (μ18_14 : (Nat → Int32) → (Nat → Int32) → (Nat → Int32) → (Nat → Int32) → (Nat → Int32) → (Nat → Int32) → Int32 → Int32 → Int32 → Int32 → Nat), I18_13 ht wm cd sl od ow lo mi 0 0 ∧ (∀ (fn1_3 : (Nat → Int32)) (fn2_4 : (Nat → Int32)) (fn4_5 : (Nat → Int32)) (fn5_6 : (Nat → Int32)) (fn6_7 : (Nat → Int32)) (fn7_8 : (Nat → Int32)) (gn7_9 : Int32) (gn8_10 : Int32) (x2_11 : Int32) (x3_12 : Int32), I18_13 fn1_3 fn2_4 fn4_5 fn5_6 fn6_7 fn7_8 gn7_9 gn8_10 x2_11 x3_12 → (x ≤ x3_12 → x2_11.toInt = (qGo T Ns Np v x.toInt).1 ∧ CN Ns Np (qGo T Ns Np v x.toInt).2 fn1_3 fn2_4 se fn4_5 fn5_6 fn6_7 fn7_8 gn7_9 gn8_10 sd) ∧ (¬ (x ≤ x3_12) → ∃ (gT_18 : Nat → Nat → Int) (gNs_19 : Nat) (gNp_20 : Nat) (gv_21 : Nat → Int) (gM_22 : Int), ((TOK gT_18 gNs_19 gNp_20 ∧ CT gT_18 gNs_19 gNp_20 ns np fu fd fi sz_ pt kd nd ∧ CN gNs_19 gNp_20 gv_21 fn1_3 fn2_4 se fn4_5 fn5_6 fn6_7 fn7_8 gn7_9 gn8_10 sd ∧ NOK gT_18 gNs_19 gNp_20 (fun _ => 2 * gM_22) gM_22 gv_21 ∧ gM_22 ≤ 1000000) ∧ (∀ (r_23 : Int32) (ht2_24 : Nat → Int32) (wm2_25 : Nat → Int32) (cd2_26 : Nat → Int32) (sl2_27 : Nat → Int32) (od2_28 : Nat → Int32) (ow2_29 : Nat → Int32) (lo2_30 : Int32) (mi2_31 : Int32), (r_23 = nI (zCs gT_18 (zPass gT_18 gNs_19 gNp_20 gv_21) gNp_20) ∧ CN gNs_19 gNp_20 (zPass gT_18 gNs_19 gNp_20 gv_21) ht2_24 wm2_25 se cd2_26 sl2_27 od2_28 ow2_29 lo2_30 mi2_31 sd) → (I18_13 ht2_24 wm2_25 cd2_26 sl2_27 od2_28 ow2_29 lo2_30 mi2_31 r_23 (x3_12 + 1) ∧ μ18_14 ht2_24 wm2_25 cd2_26 sl2_27 od2_28 ow2_29 lo2_30 mi2_31 r_23 (x3_12 + 1) < μ18_14 fn1_3 fn2_4 fn4_5 fn5_6 fn6_7 fn7_8 gn7_9 gn8_10 x2_11 x3_12)))))) ∧ (¬ (¬ x < 1 ∧ ¬ 999 < x) → ((-1000000002) : Int32).toInt = (qGo T Ns Np v x.toInt).1 ∧ CN Ns Np (qGo T Ns Np v x.toInt).2 ht wm se cd sl od ow lo mi sd)) : MetI l yX7_go wsX7_go 4 95 G [.ref h0, .int x] [(h0, .inr (7, [.ref e0, .ref t, .ref k, .ref n, .ref j, .ref i0, .int kp, .ref b0, .ref s0, .ref q, .ref g])), (t, .inr (6, [.int ns, .int np, .int fu, .int fd, .int fi, .ref t1, .ref t2, .ref t3, .ref t4, .ref t5, .ref t6])), aI G t1 9 sz_, aI G t2 9 pt, aI G t3 9 fh, aI G t4 8 kd, aI G t5 8 nd, aI G t6 8 fw, (n, .inr (1, [.ref n1, .ref n2, .ref n3, .ref n4, .ref n5, .ref n6, .ref n7, .int lo, .int mi, .int sd])), aI G n1 9 ht, aI G n2 8 wm, aI G n3 8 se, aI G n4 8 cd, aI G n5 8 sl, aI G n6 8 od, aI G n7 72 ow] sz (fun (r : Int32) (u : (Nat → Int32) × (Nat → Int32) × (Nat → Int32) × (Nat → Int32) × (Nat → Int32) × (Nat → Int32) × (Int32) × (Int32)) => r.toInt = (qGo T Ns Np v x.toInt).1 ∧ CN Ns Np (qGo T Ns Np v x.toInt).2 u.1 u.2.1 se u.2.2.1 u.2.2.2.1 u.2.2.2.2.1 u.2.2.2.2.2.1 u.2.2.2.2.2.2.1 u.2.2.2.2.2.2.2 sd) (fun (u : (Nat → Int32) × (Nat → Int32) × (Nat → Int32) × (Nat → Int32) × (Nat → Int32) × (Nat → Int32) × (Int32) × (Int32)) => [(h0, .inr (7, [.ref e0, .ref t, .ref k, .ref n, .ref j, .ref i0, .int kp, .ref b0, .ref s0, .ref q, .ref g])), (t, .inr (6, [.int ns, .int np, .int fu, .int fd, .int fi, .ref t1, .ref t2, .ref t3, .ref t4, .ref t5, .ref t6])), aI G t1 9 sz_, aI G t2 9 pt, aI G t3 9 fh, aI G t4 8 kd, aI G t5 8 nd, aI G t6 8 fw, (n, .inr (1, [.ref n1, .ref n2, .ref n3, .ref n4, .ref n5, .ref n6, .ref n7, .int u.2.2.2.2.2.2.1, .int u.2.2.2.2.2.2.2, .int sd])), aI G n1 9 u.1, aI G n2 8 u.2.1, aI G n3 8 se, aI G n4 8 u.2.2.1, aI G n5 8 u.2.2.2.1, aI G n6 8 u.2.2.2.2.1, aI G n7 72 u.2.2.2.2.2.1]) := by
  refine x_startI (cc := cX7_go) (maxL := 4) (ret := (some .int)) (by decide) rfl (Nat.le_of_ble_eq_true rfl) ?_
  intro p e s m args below meth c A R Q ls hRf hRl hQ C hP hD hS hA hSS hl
  obtain ⟨hx, hb, hr, hml, hown, hts, hlocks, hKK⟩ := C
  have hown : s.vm.findClass RX7 = some m.cls := hown
  have hl : lv_has ls 4 [(0, .ref h0), (1, .int x)] := hl
  have hinX7 : ∀ w ∈ u_ws RX7 TX7 11, w ∈ wsX7_go := by decide +kernel
  have kl19 := hts (.fieldLink RX7 19 "WarmStones" "town" "LWarmStones$Town;") (by decide +kernel)
  have kl29 := hts (.fieldLink RX7 29 "WarmStones" "night" "LWarmStones$Night;") (by decide +kernel)
  have kl72 := hts (.constant RX7 72 (-1000000002)) (by decide +kernel)
  refine lv_iload_n hx hb dX7_go_0 rfl (lv_at hl 1 rfl) ?_
  refine lv_iconst (v := 1) hx hb dX7_go_1 (by decide) ?_
  refine lv_sipush (v := 999) hx hb dX7_go_2 (by decide) ?_
  refine x_calliR (x_runS (As := [.int x, .int 1, .int 999]) (rest := []) (n := 3) ⟨hx, hb, hml, hown, hts⟩ (k_X7_within l G  _ x 1 999) gX7_go_X7_within rfl (by decide +kernel) ⟨Nat.le_trans (Nat.le_of_ble_eq_true rfl) hRf, Nat.le_trans (Nat.le_of_ble_eq_true rfl) hRl⟩ hKK hSS hS hA hP hD [] (by decide) rfl rfl hl.1 rfl (Nat.le_of_ble_eq_true rfl) dX7_go_5) hP hD hS hA [] rfl (fun r_1 _ H locs hw hP hS => ?_)
  replace hw := hw.symm; subst hw
  refine lv_if_ne (tgt := 14) hx hb dX7_go_8 (by decide) (fun hc_2 => ?_) (fun hc_2 => ?_)
  · have hv := hv.1 (tv_eqn.mp hc_2)
    refine lv_iconst (v := 0) hx hb dX7_go_14 (by decide) ?_
    refine lv_istore_n (lv' := [(2, .int 0), (0, .ref h0), (1, .int x)]) hx hb dX7_go_15 rfl hl (by decide) rfl (fun ls hl => ?_)
    refine lv_iconst (v := 0) hx hb dX7_go_16 (by decide) ?_
    refine lv_istore_n (lv' := [(3, .int 0), (2, .int 0), (0, .ref h0), (1, .int x)]) hx hb dX7_go_17 rfl hl (by decide) rfl (fun ls hl => ?_)
    obtain ⟨I18_13, μ18_14, hi0, hs_32⟩ := hv
    have Lm_34 : ∀ (n_33 : Nat) (fn1_3 : (Nat → Int32)) (fn2_4 : (Nat → Int32)) (fn4_5 : (Nat → Int32)) (fn5_6 : (Nat → Int32)) (fn6_7 : (Nat → Int32)) (fn7_8 : (Nat → Int32)) (gn7_9 : Int32) (gn8_10 : Int32) (x2_11 : Int32) (x3_12 : Int32) (H : Heap) (locs : List Loc) (ls : Array Slot), μ18_14 fn1_3 fn2_4 fn4_5 fn5_6 fn6_7 fn7_8 gn7_9 gn8_10 x2_11 x3_12 < n_33 → I18_13 fn1_3 fn2_4 fn4_5 fn5_6 fn6_7 fn7_8 gn7_9 gn8_10 x2_11 x3_12 → va_P G.1 vwCl [(h0, .inr (7, [.ref e0, .ref t, .ref k, .ref n, .ref j, .ref i0, .int kp, .ref b0, .ref s0, .ref q, .ref g])), (t, .inr (6, [.int ns, .int np, .int fu, .int fd, .int fi, .ref t1, .ref t2, .ref t3, .ref t4, .ref t5, .ref t6])), aI G t1 9 sz_, aI G t2 9 pt, aI G t3 9 fh, aI G t4 8 kd, aI G t5 8 nd, aI G t6 8 fw, (n, .inr (1, [.ref n1, .ref n2, .ref n3, .ref n4, .ref n5, .ref n6, .ref n7, .int gn7_9, .int gn8_10, .int sd])), aI G n1 9 fn1_3, aI G n2 8 fn2_4, aI G n3 8 se, aI G n4 8 fn4_5, aI G n5 8 fn5_6, aI G n6 8 fn6_7, aI G n7 72 fn7_8] H → va_D A [(h0, .inr (7, [.ref e0, .ref t, .ref k, .ref n, .ref j, .ref i0, .int kp, .ref b0, .ref s0, .ref q, .ref g])), (t, .inr (6, [.int ns, .int np, .int fu, .int fd, .int fi, .ref t1, .ref t2, .ref t3, .ref t4, .ref t5, .ref t6])), aI G t1 9 sz_, aI G t2 9 pt, aI G t3 9 fh, aI G t4 8 kd, aI G t5 8 nd, aI G t6 8 fw, (n, .inr (1, [.ref n1, .ref n2, .ref n3, .ref n4, .ref n5, .ref n6, .ref n7, .int gn7_9, .int gn8_10, .int sd])), aI G n1 9 fn1_3, aI G n2 8 fn2_4, aI G n3 8 se, aI G n4 8 fn4_5, aI G n5 8 fn5_6, aI G n6 8 fn6_7, aI G n7 72 fn7_8] → va_S A s.heap H locs → lv_has ls 4 [(3, .int x3_12), (2, .int x2_11), (0, .ref h0), (1, .int x)] → W p l e R s m args below meth c H locs 0 0 Q (F0 m 18 ls []) := by
      intro n_33
      induction n_33 with
      | zero => intro fn1_3 fn2_4 fn4_5 fn5_6 fn6_7 fn7_8 gn7_9 gn8_10 x2_11 x3_12 H locs ls hm; exact absurd hm (Nat.not_lt_zero _)
      | succ n_33 ih_15 =>
        intro fn1_3 fn2_4 fn4_5 fn5_6 fn6_7 fn7_8 gn7_9 gn8_10 x2_11 x3_12 H locs ls hI_16 hi hP hD hS hl
        have hv := hs_32 fn1_3 fn2_4 fn4_5 fn5_6 fn6_7 fn7_8 gn7_9 gn8_10 x2_11 x3_12 hi
        refine lv_iload_n hx hb dX7_go_18 rfl (lv_at hl 0 rfl) ?_
        refine lv_iload_n hx hb dX7_go_19 rfl (lv_at hl 3 rfl) ?_
        refine lv_icmp_ge (tgt := 41) hx hb dX7_go_20 (by decide) (fun hc_17 => ?_) (fun hc_17 => ?_)
        · have hv := hv.1 hc_17
          refine lv_iload_n hx hb dX7_go_41 rfl (lv_at hl 1 rfl) ?_
          exact x_iret (v := x2_11) (fn1_3, fn2_4, fn4_5, fn5_6, fn6_7, fn7_8, gn7_9, gn8_10) hQ hx hb hr hlocks hS dX7_go_42 hv hP hD
        · have hv := hv.2 hc_17
          refine lv_aload_n hx hb dX7_go_23 rfl (lv_at hl 2 rfl) ?_
          refine va_get (D := G.1) (ci := 7) (v := .ref n) (C := RX7) (T := TX7) (N := 11) hx hb hts hinX7 hown hKK.1 hP 0 rfl rfl 3 (by decide) kl29 (fun _ h9 => h9) rfl dX7_go_24 ?_
          refine lv_aload_n hx hb dX7_go_27 rfl (lv_at hl 2 rfl) ?_
          refine va_get (D := G.1) (ci := 7) (v := .ref t) (C := RX7) (T := TX7) (N := 11) hx hb hts hinX7 hown hKK.1 hP 0 rfl rfl 1 (by decide) kl19 (fun _ h9 => h9) rfl dX7_go_28 ?_
          obtain ⟨gT_18, gNs_19, gNp_20, gv_21, gM_22, hv⟩ := hv
          obtain ⟨hp, hv⟩ := hv
          refine x_calli (wr := [(h0, .inr (7, [.ref e0, .ref t, .ref k, .ref n, .ref j, .ref i0, .int kp, .ref b0, .ref s0, .ref q, .ref g]))]) (w' := fun (u : (Nat → Int32) × (Nat → Int32) × (Nat → Int32) × (Nat → Int32) × (Nat → Int32) × (Nat → Int32) × (Int32) × (Int32)) => [(h0, .inr (7, [.ref e0, .ref t, .ref k, .ref n, .ref j, .ref i0, .int kp, .ref b0, .ref s0, .ref q, .ref g])), (t, .inr (6, [.int ns, .int np, .int fu, .int fd, .int fi, .ref t1, .ref t2, .ref t3, .ref t4, .ref t5, .ref t6])), aI G t1 9 sz_, aI G t2 9 pt, aI G t3 9 fh, aI G t4 8 kd, aI G t5 8 nd, aI G t6 8 fw, (n, .inr (1, [.ref n1, .ref n2, .ref n3, .ref n4, .ref n5, .ref n6, .ref n7, .int u.2.2.2.2.2.2.1, .int u.2.2.2.2.2.2.2, .int sd])), aI G n1 9 u.1, aI G n2 8 u.2.1, aI G n3 8 se, aI G n4 8 u.2.2.1, aI G n5 8 u.2.2.2.1, aI G n6 8 u.2.2.2.2.1, aI G n7 72 u.2.2.2.2.2.1]) (x_runV (As := [.ref t]) (rest := []) (n := 1) (C := RX1) (ci := 1) ⟨hx, hb, hml, hown, hts⟩ (k_X1_passMinute l G n n1 n2 n3 n4 n5 n6 n7 t t1 t2 t3 t4 t5 t6 _ fn1_3 fn2_4 se fn4_5 fn5_6 fn6_7 fn7_8 gn7_9 gn8_10 sd ns np fu fd fi sz_ pt fh kd nd fw gT_18 gNs_19 gNp_20 gv_21 gM_22 hp) gX7_go_X1_passMinute rfl (by decide +kernel) ⟨Nat.le_trans (Nat.le_of_ble_eq_true rfl) hRf, Nat.le_trans (Nat.le_of_ble_eq_true rfl) hRl⟩ hKK hSS hS hA hP hD [8, 9, 10, 11, 12, 13, 14, 15, 1, 2, 3, 4, 5, 6, 7] (by decide) rfl rfl rfl 8 rfl rfl hl.1 rfl (Nat.le_of_ble_eq_true rfl) dX7_go_31) hP hD hS hA [8, 9, 10, 11, 12, 13, 14, 15, 1, 2, 3, 4, 5, 6, 7] [0] [0, 9, 10, 11, 12, 13, 14, 15, 1, 2, 3, 4, 5, 6, 7, 8] rfl rfl (by decide) (by decide) (by decide) (fun _ => rfl) (fun r_23 u H locs hw hP hD hS => ?_)
          obtain ⟨ht2_24, wm2_25, cd2_26, sl2_27, od2_28, ow2_29, lo2_30, mi2_31⟩ := u
          have hP : va_P G.1 vwCl [(h0, .inr (7, [.ref e0, .ref t, .ref k, .ref n, .ref j, .ref i0, .int kp, .ref b0, .ref s0, .ref q, .ref g])), (t, .inr (6, [.int ns, .int np, .int fu, .int fd, .int fi, .ref t1, .ref t2, .ref t3, .ref t4, .ref t5, .ref t6])), aI G t1 9 sz_, aI G t2 9 pt, aI G t3 9 fh, aI G t4 8 kd, aI G t5 8 nd, aI G t6 8 fw, (n, .inr (1, [.ref n1, .ref n2, .ref n3, .ref n4, .ref n5, .ref n6, .ref n7, .int lo2_30, .int mi2_31, .int sd])), aI G n1 9 ht2_24, aI G n2 8 wm2_25, aI G n3 8 se, aI G n4 8 cd2_26, aI G n5 8 sl2_27, aI G n6 8 od2_28, aI G n7 72 ow2_29] H := hP
          have hD : va_D A [(h0, .inr (7, [.ref e0, .ref t, .ref k, .ref n, .ref j, .ref i0, .int kp, .ref b0, .ref s0, .ref q, .ref g])), (t, .inr (6, [.int ns, .int np, .int fu, .int fd, .int fi, .ref t1, .ref t2, .ref t3, .ref t4, .ref t5, .ref t6])), aI G t1 9 sz_, aI G t2 9 pt, aI G t3 9 fh, aI G t4 8 kd, aI G t5 8 nd, aI G t6 8 fw, (n, .inr (1, [.ref n1, .ref n2, .ref n3, .ref n4, .ref n5, .ref n6, .ref n7, .int lo2_30, .int mi2_31, .int sd])), aI G n1 9 ht2_24, aI G n2 8 wm2_25, aI G n3 8 se, aI G n4 8 cd2_26, aI G n5 8 sl2_27, aI G n6 8 od2_28, aI G n7 72 ow2_29] := hD
          have hv := hv r_23 ht2_24 wm2_25 cd2_26 sl2_27 od2_28 ow2_29 lo2_30 mi2_31 hw
          refine lv_istore_n (lv' := [(2, .int r_23), (3, .int x3_12), (0, .ref h0), (1, .int x)]) hx hb dX7_go_34 rfl hl (by decide) rfl (fun ls hl => ?_)
          refine lv_iinc (v := (x3_12 + 1)) (lv' := [(3, .int (x3_12 + 1)), (2, .int r_23), (0, .ref h0), (1, .int x)]) hx hb dX7_go_35 hl (k := 1) rfl rfl (by decide) rfl (fun ls hl => ?_)
          refine lv_goto (tgt := 18) hx hb dX7_go_38 (by decide) ?_
          exact ih_15 _ _ _ _ _ _ _ _ _ _ _ _ _ (Nat.lt_of_lt_of_le hv.2 (Nat.le_of_lt_succ hI_16)) hv.1 hP hD hS hl
    exact Lm_34 _ _ _ _ _ _ _ _ _ _ _ _ _ _ (Nat.lt_succ_self _) hi0 hP hD hS hl
  · have hv := hv.2 (tv_eq.mp hc_2)
    refine lv_ldc (v := (-1000000002)) hx hb hown kl72 dX7_go_11 ?_
    exact x_iret (v := (-1000000002)) (ht, wm, cd, sl, od, ow, lo, mi) hQ hx hb hr hlocks hS dX7_go_13 hv hP hD
theorem v_X7_go (l : Launch) (G : Gt) (h0 t t1 t2 t3 t4 t5 t6 n n1 n2 n3 n4 n5 n6 n7 : Nat) (sz : Nat) (e0 : Nat) (k : Nat) (j : Nat) (i0 : Nat) (b0 : Nat) (s0 : Nat) (q : Nat) (g : Nat) (kp : Int32) (ns : Int32) (np : Int32) (fu : Int32) (fd : Int32) (fi : Int32) (sz_ : Nat → Int32) (pt : Nat → Int32) (fh : Nat → Int32) (kd : Nat → Int32) (nd : Nat → Int32) (fw : Nat → Int32) (ht : Nat → Int32) (wm : Nat → Int32) (se : Nat → Int32) (cd : Nat → Int32) (sl : Nat → Int32) (od : Nat → Int32) (ow : Nat → Int32) (lo : Int32) (mi : Int32) (sd : Int32) (x : Int32) (T : Nat → Nat → Int) (Ns : Nat) (Np : Nat) (v : Nat → Int) (M : Int) (hp : TOK T Ns Np ∧ CT T Ns Np ns np fu fd fi sz_ pt kd nd ∧ CN Ns Np v ht wm se cd sl od ow lo mi sd ∧ NOK T Ns Np (fun _ => 2 * M) M v ∧ M ≤ 900000) : (¬ x < 1 ∧ ¬ 999 < x → ∃ (I18_13 : (Nat → Int32) → (Nat → Int32) → (Nat → Int32) → (Nat → Int32) → (Nat → Int32) → (Nat → Int32) → Int32 → Int32 → Int32 → Int32 → Prop) (μ18_14 : (Nat → Int32) → (Nat → Int32) → (Nat → Int32) → (Nat → Int32) → (Nat → Int32) → (Nat → Int32) → Int32 → Int32 → Int32 → Int32 → Nat), I18_13 ht wm cd sl od ow lo mi 0 0 ∧ (∀ (fn1_3 : (Nat → Int32)) (fn2_4 : (Nat → Int32)) (fn4_5 : (Nat → Int32)) (fn5_6 : (Nat → Int32)) (fn6_7 : (Nat → Int32)) (fn7_8 : (Nat → Int32)) (gn7_9 : Int32) (gn8_10 : Int32) (x2_11 : Int32) (x3_12 : Int32), I18_13 fn1_3 fn2_4 fn4_5 fn5_6 fn6_7 fn7_8 gn7_9 gn8_10 x2_11 x3_12 → (x ≤ x3_12 → x2_11.toInt = (qGo T Ns Np v x.toInt).1 ∧ CN Ns Np (qGo T Ns Np v x.toInt).2 fn1_3 fn2_4 se fn4_5 fn5_6 fn6_7 fn7_8 gn7_9 gn8_10 sd) ∧ (¬ (x ≤ x3_12) → ∃ (gT_18 : Nat → Nat → Int) (gNs_19 : Nat) (gNp_20 : Nat) (gv_21 : Nat → Int) (gM_22 : Int), ((TOK gT_18 gNs_19 gNp_20 ∧ CT gT_18 gNs_19 gNp_20 ns np fu fd fi sz_ pt kd nd ∧ CN gNs_19 gNp_20 gv_21 fn1_3 fn2_4 se fn4_5 fn5_6 fn6_7 fn7_8 gn7_9 gn8_10 sd ∧ NOK gT_18 gNs_19 gNp_20 (fun _ => 2 * gM_22) gM_22 gv_21 ∧ gM_22 ≤ 1000000) ∧ (∀ (r_23 : Int32) (ht2_24 : Nat → Int32) (wm2_25 : Nat → Int32) (cd2_26 : Nat → Int32) (sl2_27 : Nat → Int32) (od2_28 : Nat → Int32) (ow2_29 : Nat → Int32) (lo2_30 : Int32) (mi2_31 : Int32), (r_23 = nI (zCs gT_18 (zPass gT_18 gNs_19 gNp_20 gv_21) gNp_20) ∧ CN gNs_19 gNp_20 (zPass gT_18 gNs_19 gNp_20 gv_21) ht2_24 wm2_25 se cd2_26 sl2_27 od2_28 ow2_29 lo2_30 mi2_31 sd) → (I18_13 ht2_24 wm2_25 cd2_26 sl2_27 od2_28 ow2_29 lo2_30 mi2_31 r_23 (x3_12 + 1) ∧ μ18_14 ht2_24 wm2_25 cd2_26 sl2_27 od2_28 ow2_29 lo2_30 mi2_31 r_23 (x3_12 + 1) < μ18_14 fn1_3 fn2_4 fn4_5 fn5_6 fn6_7 fn7_8 gn7_9 gn8_10 x2_11 x3_12)))))) ∧ (¬ (¬ x < 1 ∧ ¬ 999 < x) → ((-1000000002) : Int32).toInt = (qGo T Ns Np v x.toInt).1 ∧ CN Ns Np (qGo T Ns Np v x.toInt).2 ht wm se cd sl od ow lo mi sd) := by
  obtain ⟨hT, hC, hN, hO, hM⟩ := hp
  have t1 := hT.1
  have t2 := hT.2.1
  have hns : ns = nI Ns := hC.1
  have hnp : np = nI Np := hC.2.1
  have hc : (¬ x < 1 ∧ ¬ 999 < x) ↔ (1 ≤ x.toInt ∧ x.toInt ≤ 999) := wi_iff rfl rfl
  simp only [hc]
  refine ⟨fun hq => ?_, fun h => by rw [qGo, if_neg h]; exact ⟨rfl, hN⟩⟩
  rw [qGo, if_pos hq]
  obtain ⟨n, hn, rfl, hxn, hxt⟩ := in_nat (x := x) (n := 1000) (by omega) (by omega)
  rw [hxt]
  refine ⟨fun f1 f2 f4 f5 f6 f7 g7 g8 c z => ∃ i, i ≤ n ∧ z = nI i ∧ (0 < i → c = nI (zCs T (zGo T Ns Np v i) Np)) ∧ CN Ns Np (zGo T Ns Np v i) f1 f2 se f4 f5 f6 f7 g7 g8 sd, fun _ _ _ _ _ _ _ _ _ z => n - z.toNatClampNeg, ⟨0, by omega, rfl, fun q => absurd q (Nat.lt_irrefl _), hN⟩, ?_⟩
  rintro f1 f2 f4 f5 f6 f7 g7 g8 c z ⟨i, hi, rfl, hci, hNi⟩
  have ei : (nI i).toNatClampNeg = i := nI_clamp (by omega)
  have ei1 : nI i + 1 = nI (i + 1) := nI_1 i
  have ej : (nI (i + 1)).toNatClampNeg = i + 1 := nI_clamp (by omega)
  simp only [ei, ei1, ej]
  refine ⟨fun h => ?_, fun h => ?_⟩
  · have e : n = i := by have := (nI_leI (a := n) (b := i) (by omega) (by omega)).mp h; omega
    subst e
    refine ⟨?_, hNi⟩
    rw [hci (by omega), nI_toInt]
    exact Nat.lt_trans (zCs_lt T (zGo T Ns Np v n) Np) (Nat.pow_lt_pow_right (by omega) (by omega))
  · have hlt : i < n := by
      rcases Nat.lt_or_ge i n with q | q
      · exact q
      · exact absurd ((nI_leI (by omega) (by omega)).mpr q) h
    refine ⟨T, Ns, Np, _, M + i, ⟨hT, hC, hNi, zGo_ok hT hO i, by omega⟩, fun r a1 a2 a3 a4 a5 a6 a7 a8 hw => ⟨⟨i + 1, by omega, rfl, fun _ => hw.1, hw.2⟩, by omega⟩⟩
theorem k_X7_go (l : Launch) (G : Gt) (h0 t t1 t2 t3 t4 t5 t6 n n1 n2 n3 n4 n5 n6 n7 : Nat) (sz : Nat) (e0 : Nat) (k : Nat) (j : Nat) (i0 : Nat) (b0 : Nat) (s0 : Nat) (q : Nat) (g : Nat) (kp : Int32) (ns : Int32) (np : Int32) (fu : Int32) (fd : Int32) (fi : Int32) (sz_ : Nat → Int32) (pt : Nat → Int32) (fh : Nat → Int32) (kd : Nat → Int32) (nd : Nat → Int32) (fw : Nat → Int32) (ht : Nat → Int32) (wm : Nat → Int32) (se : Nat → Int32) (cd : Nat → Int32) (sl : Nat → Int32) (od : Nat → Int32) (ow : Nat → Int32) (lo : Int32) (mi : Int32) (sd : Int32) (x : Int32) (T : Nat → Nat → Int) (Ns : Nat) (Np : Nat) (v : Nat → Int) (M : Int) (hp : TOK T Ns Np ∧ CT T Ns Np ns np fu fd fi sz_ pt kd nd ∧ CN Ns Np v ht wm se cd sl od ow lo mi sd ∧ NOK T Ns Np (fun _ => 2 * M) M v ∧ M ≤ 900000) : MetI l yX7_go wsX7_go 4 95 G [.ref h0, .int x] [(h0, .inr (7, [.ref e0, .ref t, .ref k, .ref n, .ref j, .ref i0, .int kp, .ref b0, .ref s0, .ref q, .ref g])), (t, .inr (6, [.int ns, .int np, .int fu, .int fd, .int fi, .ref t1, .ref t2, .ref t3, .ref t4, .ref t5, .ref t6])), aI G t1 9 sz_, aI G t2 9 pt, aI G t3 9 fh, aI G t4 8 kd, aI G t5 8 nd, aI G t6 8 fw, (n, .inr (1, [.ref n1, .ref n2, .ref n3, .ref n4, .ref n5, .ref n6, .ref n7, .int lo, .int mi, .int sd])), aI G n1 9 ht, aI G n2 8 wm, aI G n3 8 se, aI G n4 8 cd, aI G n5 8 sl, aI G n6 8 od, aI G n7 72 ow] sz (fun (r : Int32) (u : (Nat → Int32) × (Nat → Int32) × (Nat → Int32) × (Nat → Int32) × (Nat → Int32) × (Nat → Int32) × (Int32) × (Int32)) => r.toInt = (qGo T Ns Np v x.toInt).1 ∧ CN Ns Np (qGo T Ns Np v x.toInt).2 u.1 u.2.1 se u.2.2.1 u.2.2.2.1 u.2.2.2.2.1 u.2.2.2.2.2.1 u.2.2.2.2.2.2.1 u.2.2.2.2.2.2.2 sd) (fun (u : (Nat → Int32) × (Nat → Int32) × (Nat → Int32) × (Nat → Int32) × (Nat → Int32) × (Nat → Int32) × (Int32) × (Int32)) => [(h0, .inr (7, [.ref e0, .ref t, .ref k, .ref n, .ref j, .ref i0, .int kp, .ref b0, .ref s0, .ref q, .ref g])), (t, .inr (6, [.int ns, .int np, .int fu, .int fd, .int fi, .ref t1, .ref t2, .ref t3, .ref t4, .ref t5, .ref t6])), aI G t1 9 sz_, aI G t2 9 pt, aI G t3 9 fh, aI G t4 8 kd, aI G t5 8 nd, aI G t6 8 fw, (n, .inr (1, [.ref n1, .ref n2, .ref n3, .ref n4, .ref n5, .ref n6, .ref n7, .int u.2.2.2.2.2.2.1, .int u.2.2.2.2.2.2.2, .int sd])), aI G n1 9 u.1, aI G n2 8 u.2.1, aI G n3 8 se, aI G n4 8 u.2.2.1, aI G n5 8 u.2.2.2.1, aI G n6 8 u.2.2.2.2.1, aI G n7 72 u.2.2.2.2.2.1]) :=
  c_X7_go l G h0 t t1 t2 t3 t4 t5 t6 n n1 n2 n3 n4 n5 n6 n7 sz e0 k j i0 b0 s0 q g kp ns np fu fd fi sz_ pt fh kd nd fw ht wm se cd sl od ow lo mi sd x T Ns Np v M (v_X7_go l G h0 t t1 t2 t3 t4 t5 t6 n n1 n2 n3 n4 n5 n6 n7 sz e0 k j i0 b0 s0 q g kp ns np fu fd fi sz_ pt fh kd nd fw ht wm se cd sl od ow lo mi sd x T Ns Np v M hp)

set_option maxHeartbeats 4000000 in
set_option maxRecDepth 100000 in
theorem c_X7_drift (l : Launch) (G : Gt) (h0 t t1 t2 t3 t4 t5 t6 n n1 n2 n3 n4 n5 n6 n7 : Nat) (sz : Nat) (e0 : Nat) (k : Nat) (j : Nat) (i0 : Nat) (b0 : Nat) (s0 : Nat) (q : Nat) (g : Nat) (kp : Int32) (ns : Int32) (np : Int32) (fu : Int32) (fd : Int32) (fi : Int32) (sz_ : Nat → Int32) (pt : Nat → Int32) (fh : Nat → Int32) (kd : Nat → Int32) (nd : Nat → Int32) (fw : Nat → Int32) (ht : Nat → Int32) (wm : Nat → Int32) (se : Nat → Int32) (cd : Nat → Int32) (sl : Nat → Int32) (od : Nat → Int32) (ow : Nat → Int32) (lo : Int32) (mi : Int32) (sd : Int32) (x : Int32) (T : Nat → Nat → Int) (Ns : Nat) (Np : Nat) (v : Nat → Int) (M : Int) (hv : (¬ x < 1 ∧ ¬ 999 < x → ∃ (I18_15 : (Nat → Int32) → (Nat → Int32) → (Nat → Int32) → (Nat → Int32) → (Nat → Int32) → (Nat → Int32) → (Nat → Int32) → Int32 → Int32 → Int32 → Int32 → Int32 → Prop) (μ18_16 : (Nat → Int32) → (Nat → Int32) → (Nat → Int32) → (Nat → Int32) → (Nat → Int32) → (Nat → Int32) → (Nat → Int32) → Int32 → Int32 → Int32 → Int32 → Int32 → Nat), I18_15 ht wm se cd sl od ow lo mi sd 0 0 ∧ (∀ (fn1_3 : (Nat → Int32)) (fn2_4 : (Nat → Int32)) (fn3_5 : (Nat → Int32)) (fn4_6 : (Nat → Int32)) (fn5_7 : (Nat → Int32)) (fn6_8 : (Nat → Int32)) (fn7_9 : (Nat → Int32)) (gn7_10 : Int32) (gn8_11 : Int32) (gn9_12 : Int32) (x2_13 : Int32) (x3_14 : Int32), I18_15 fn1_3 fn2_4 fn3_5 fn4_6 fn5_7 fn6_8 fn7_9 gn7_10 gn8_11 gn9_12 x2_13 x3_14 → (x ≤ x3_14 → x2_13.toInt = (qDrift T Ns Np v x.toInt).1 ∧ CN Ns Np (qDrift T Ns Np v x.toInt).2 fn1_3 fn2_4 fn3_5 fn4_6 fn5_7 fn6_8 fn7_9 gn7_10 gn8_11 gn9_12) ∧ (¬ (x ≤ x3_14) → ∃ (gT_20 : Nat → Nat → Int) (gNs_21 : Nat) (gNp_22 : Nat) (gv_23 : Nat → Int), ((TOK gT_20 gNs_21 gNp_22 ∧ CT gT_20 gNs_21 gNp_22 ns np fu fd fi sz_ pt kd nd ∧ CN gNs_21 gNp_22 gv_23 fn1_3 fn2_4 fn3_5 fn4_6 fn5_7 fn6_8 fn7_9 gn7_10 gn8_11 gn9_12 ∧ 0 ≤ gv_23 133 ∧ gv_23 133 < 2147483648) ∧ (∀ (se2_25 : Nat → Int32) (sd2_26 : Int32), (CN gNs_21 gNp_22 (zWans gNs_21 gNp_22 gv_23 gNp_22) fn1_3 fn2_4 se2_25 fn4_6 fn5_7 fn6_8 fn7_9 gn7_10 gn8_11 sd2_26) → (∃ (gT_27 : Nat → Nat → Int) (gNs_28 : Nat) (gNp_29 : Nat) (gv_30 : Nat → Int) (gM_31 : Int), ((TOK gT_27 gNs_28 gNp_29 ∧ CT gT_27 gNs_28 gNp_29 ns np fu fd fi sz_ pt kd nd ∧ CN gNs_28 gNp_29 gv_30 fn1_3 fn2_4 se2_25 fn4_6 fn5_7 fn6_8 fn7_9 gn7_10 gn8_11 sd2_26 ∧ NOK gT_27 gNs_28 gNp_29 (fun _ => 2 * gM_31) gM_31 gv_30 ∧ gM_31 ≤ 1000000) ∧ (∀ (r_32 : Int32) (ht2_33 : Nat → Int32) (wm2_34 : Nat → Int32) (cd2_35 : Nat → Int32) (sl2_36 : Nat → Int32) (od2_37 : Nat → Int32) (ow2_38 : Nat → Int32) (lo2_39 : Int32) (mi2_40 : Int32), (r_32 = nI (zCs gT_27 (zPass gT_27 gNs_28 gNp_29 gv_30) gNp_29) ∧ CN gNs_28 gNp_29 (zPass gT_27 gNs_28 gNp_29 gv_30) ht2_33 wm2_34 se2_25 cd2_35 sl2_36 od2_37 ow2_38 lo2_39 mi2_40 sd2_26) → (I18_15 ht2_33 wm2_34 se2_25 cd2_35 sl2_36 od2_37 ow2_38 lo2_39 mi2_40 sd2_26 r_32 (x3_14 + 1) ∧ μ18_16 ht2_33 wm2_34 se2_25 cd2_35 sl2_36 od2_37 ow2_38 lo2_39 mi2_40 sd2_26 r_32 (x3_14 + 1) < μ18_16 fn1_3 fn2_4 fn3_5 fn4_6 fn5_7 fn6_8 fn7_9 gn7_10 gn8_11 gn9_12 x2_13 x3_14))))))))) ∧ (¬ (¬ x < 1 ∧ ¬ 999 < x) → ((-1000000002) : Int32).toInt = (qDrift T Ns Np v x.toInt).1 ∧ CN Ns Np (qDrift T Ns Np v x.toInt).2 ht wm se cd sl od ow lo mi sd)) : MetI l yX7_drift wsX7_drift 4 95 G [.ref h0, .int x] [(h0, .inr (7, [.ref e0, .ref t, .ref k, .ref n, .ref j, .ref i0, .int kp, .ref b0, .ref s0, .ref q, .ref g])), (t, .inr (6, [.int ns, .int np, .int fu, .int fd, .int fi, .ref t1, .ref t2, .ref t3, .ref t4, .ref t5, .ref t6])), aI G t1 9 sz_, aI G t2 9 pt, aI G t3 9 fh, aI G t4 8 kd, aI G t5 8 nd, aI G t6 8 fw, (n, .inr (1, [.ref n1, .ref n2, .ref n3, .ref n4, .ref n5, .ref n6, .ref n7, .int lo, .int mi, .int sd])), aI G n1 9 ht, aI G n2 8 wm, aI G n3 8 se, aI G n4 8 cd, aI G n5 8 sl, aI G n6 8 od, aI G n7 72 ow] sz (fun (r : Int32) (u : (Nat → Int32) × (Nat → Int32) × (Nat → Int32) × (Nat → Int32) × (Nat → Int32) × (Nat → Int32) × (Nat → Int32) × (Int32) × (Int32) × (Int32)) => r.toInt = (qDrift T Ns Np v x.toInt).1 ∧ CN Ns Np (qDrift T Ns Np v x.toInt).2 u.1 u.2.1 u.2.2.1 u.2.2.2.1 u.2.2.2.2.1 u.2.2.2.2.2.1 u.2.2.2.2.2.2.1 u.2.2.2.2.2.2.2.1 u.2.2.2.2.2.2.2.2.1 u.2.2.2.2.2.2.2.2.2) (fun (u : (Nat → Int32) × (Nat → Int32) × (Nat → Int32) × (Nat → Int32) × (Nat → Int32) × (Nat → Int32) × (Nat → Int32) × (Int32) × (Int32) × (Int32)) => [(h0, .inr (7, [.ref e0, .ref t, .ref k, .ref n, .ref j, .ref i0, .int kp, .ref b0, .ref s0, .ref q, .ref g])), (t, .inr (6, [.int ns, .int np, .int fu, .int fd, .int fi, .ref t1, .ref t2, .ref t3, .ref t4, .ref t5, .ref t6])), aI G t1 9 sz_, aI G t2 9 pt, aI G t3 9 fh, aI G t4 8 kd, aI G t5 8 nd, aI G t6 8 fw, (n, .inr (1, [.ref n1, .ref n2, .ref n3, .ref n4, .ref n5, .ref n6, .ref n7, .int u.2.2.2.2.2.2.2.1, .int u.2.2.2.2.2.2.2.2.1, .int u.2.2.2.2.2.2.2.2.2])), aI G n1 9 u.1, aI G n2 8 u.2.1, aI G n3 8 u.2.2.1, aI G n4 8 u.2.2.2.1, aI G n5 8 u.2.2.2.2.1, aI G n6 8 u.2.2.2.2.2.1, aI G n7 72 u.2.2.2.2.2.2.1]) := by
  refine x_startI (cc := cX7_drift) (maxL := 4) (ret := (some .int)) (by decide) rfl (Nat.le_of_ble_eq_true rfl) ?_
  intro p e s m args below meth c A R Q ls hRf hRl hQ C hP hD hS hA hSS hl
  obtain ⟨hx, hb, hr, hml, hown, hts, hlocks, hKK⟩ := C
  have hown : s.vm.findClass RX7 = some m.cls := hown
  have hl : lv_has ls 4 [(0, .ref h0), (1, .int x)] := hl
  have hinX7 : ∀ w ∈ u_ws RX7 TX7 11, w ∈ wsX7_drift := by decide +kernel
  have kl19 := hts (.fieldLink RX7 19 "WarmStones" "town" "LWarmStones$Town;") (by decide +kernel)
  have kl29 := hts (.fieldLink RX7 29 "WarmStones" "night" "LWarmStones$Night;") (by decide +kernel)
  have kl72 := hts (.constant RX7 72 (-1000000002)) (by decide +kernel)
  refine lv_iload_n hx hb dX7_drift_0 rfl (lv_at hl 1 rfl) ?_
  refine lv_iconst (v := 1) hx hb dX7_drift_1 (by decide) ?_
  refine lv_sipush (v := 999) hx hb dX7_drift_2 (by decide) ?_
  refine x_calliR (x_runS (As := [.int x, .int 1, .int 999]) (rest := []) (n := 3) ⟨hx, hb, hml, hown, hts⟩ (k_X7_within l G  _ x 1 999) gX7_drift_X7_within rfl (by decide +kernel) ⟨Nat.le_trans (Nat.le_of_ble_eq_true rfl) hRf, Nat.le_trans (Nat.le_of_ble_eq_true rfl) hRl⟩ hKK hSS hS hA hP hD [] (by decide) rfl rfl hl.1 rfl (Nat.le_of_ble_eq_true rfl) dX7_drift_5) hP hD hS hA [] rfl (fun r_1 _ H locs hw hP hS => ?_)
  replace hw := hw.symm; subst hw
  refine lv_if_ne (tgt := 14) hx hb dX7_drift_8 (by decide) (fun hc_2 => ?_) (fun hc_2 => ?_)
  · have hv := hv.1 (tv_eqn.mp hc_2)
    refine lv_iconst (v := 0) hx hb dX7_drift_14 (by decide) ?_
    refine lv_istore_n (lv' := [(2, .int 0), (0, .ref h0), (1, .int x)]) hx hb dX7_drift_15 rfl hl (by decide) rfl (fun ls hl => ?_)
    refine lv_iconst (v := 0) hx hb dX7_drift_16 (by decide) ?_
    refine lv_istore_n (lv' := [(3, .int 0), (2, .int 0), (0, .ref h0), (1, .int x)]) hx hb dX7_drift_17 rfl hl (by decide) rfl (fun ls hl => ?_)
    obtain ⟨I18_15, μ18_16, hi0, hs_41⟩ := hv
    have Lm_43 : ∀ (n_42 : Nat) (fn1_3 : (Nat → Int32)) (fn2_4 : (Nat → Int32)) (fn3_5 : (Nat → Int32)) (fn4_6 : (Nat → Int32)) (fn5_7 : (Nat → Int32)) (fn6_8 : (Nat → Int32)) (fn7_9 : (Nat → Int32)) (gn7_10 : Int32) (gn8_11 : Int32) (gn9_12 : Int32) (x2_13 : Int32) (x3_14 : Int32) (H : Heap) (locs : List Loc) (ls : Array Slot), μ18_16 fn1_3 fn2_4 fn3_5 fn4_6 fn5_7 fn6_8 fn7_9 gn7_10 gn8_11 gn9_12 x2_13 x3_14 < n_42 → I18_15 fn1_3 fn2_4 fn3_5 fn4_6 fn5_7 fn6_8 fn7_9 gn7_10 gn8_11 gn9_12 x2_13 x3_14 → va_P G.1 vwCl [(h0, .inr (7, [.ref e0, .ref t, .ref k, .ref n, .ref j, .ref i0, .int kp, .ref b0, .ref s0, .ref q, .ref g])), (t, .inr (6, [.int ns, .int np, .int fu, .int fd, .int fi, .ref t1, .ref t2, .ref t3, .ref t4, .ref t5, .ref t6])), aI G t1 9 sz_, aI G t2 9 pt, aI G t3 9 fh, aI G t4 8 kd, aI G t5 8 nd, aI G t6 8 fw, (n, .inr (1, [.ref n1, .ref n2, .ref n3, .ref n4, .ref n5, .ref n6, .ref n7, .int gn7_10, .int gn8_11, .int gn9_12])), aI G n1 9 fn1_3, aI G n2 8 fn2_4, aI G n3 8 fn3_5, aI G n4 8 fn4_6, aI G n5 8 fn5_7, aI G n6 8 fn6_8, aI G n7 72 fn7_9] H → va_D A [(h0, .inr (7, [.ref e0, .ref t, .ref k, .ref n, .ref j, .ref i0, .int kp, .ref b0, .ref s0, .ref q, .ref g])), (t, .inr (6, [.int ns, .int np, .int fu, .int fd, .int fi, .ref t1, .ref t2, .ref t3, .ref t4, .ref t5, .ref t6])), aI G t1 9 sz_, aI G t2 9 pt, aI G t3 9 fh, aI G t4 8 kd, aI G t5 8 nd, aI G t6 8 fw, (n, .inr (1, [.ref n1, .ref n2, .ref n3, .ref n4, .ref n5, .ref n6, .ref n7, .int gn7_10, .int gn8_11, .int gn9_12])), aI G n1 9 fn1_3, aI G n2 8 fn2_4, aI G n3 8 fn3_5, aI G n4 8 fn4_6, aI G n5 8 fn5_7, aI G n6 8 fn6_8, aI G n7 72 fn7_9] → va_S A s.heap H locs → lv_has ls 4 [(3, .int x3_14), (2, .int x2_13), (0, .ref h0), (1, .int x)] → W p l e R s m args below meth c H locs 0 0 Q (F0 m 18 ls []) := by
      intro n_42
      induction n_42 with
      | zero => intro fn1_3 fn2_4 fn3_5 fn4_6 fn5_7 fn6_8 fn7_9 gn7_10 gn8_11 gn9_12 x2_13 x3_14 H locs ls hm; exact absurd hm (Nat.not_lt_zero _)
      | succ n_42 ih_17 =>
        intro fn1_3 fn2_4 fn3_5 fn4_6 fn5_7 fn6_8 fn7_9 gn7_10 gn8_11 gn9_12 x2_13 x3_14 H locs ls hI_18 hi hP hD hS hl
        have hv := hs_41 fn1_3 fn2_4 fn3_5 fn4_6 fn5_7 fn6_8 fn7_9 gn7_10 gn8_11 gn9_12 x2_13 x3_14 hi
        refine lv_iload_n hx hb dX7_drift_18 rfl (lv_at hl 0 rfl) ?_
        refine lv_iload_n hx hb dX7_drift_19 rfl (lv_at hl 3 rfl) ?_
        refine lv_icmp_ge (tgt := 52) hx hb dX7_drift_20 (by decide) (fun hc_19 => ?_) (fun hc_19 => ?_)
        · have hv := hv.1 hc_19
          refine lv_iload_n hx hb dX7_drift_52 rfl (lv_at hl 1 rfl) ?_
          exact x_iret (v := x2_13) (fn1_3, fn2_4, fn3_5, fn4_6, fn5_7, fn6_8, fn7_9, gn7_10, gn8_11, gn9_12) hQ hx hb hr hlocks hS dX7_drift_53 hv hP hD
        · have hv := hv.2 hc_19
          refine lv_aload_n hx hb dX7_drift_23 rfl (lv_at hl 2 rfl) ?_
          refine va_get (D := G.1) (ci := 7) (v := .ref n) (C := RX7) (T := TX7) (N := 11) hx hb hts hinX7 hown hKK.1 hP 0 rfl rfl 3 (by decide) kl29 (fun _ h9 => h9) rfl dX7_drift_24 ?_
          refine lv_aload_n hx hb dX7_drift_27 rfl (lv_at hl 2 rfl) ?_
          refine va_get (D := G.1) (ci := 7) (v := .ref t) (C := RX7) (T := TX7) (N := 11) hx hb hts hinX7 hown hKK.1 hP 0 rfl rfl 1 (by decide) kl19 (fun _ h9 => h9) rfl dX7_drift_28 ?_
          obtain ⟨gT_20, gNs_21, gNp_22, gv_23, hv⟩ := hv
          obtain ⟨hp, hv⟩ := hv
          refine x_callv (wr := [(h0, .inr (7, [.ref e0, .ref t, .ref k, .ref n, .ref j, .ref i0, .int kp, .ref b0, .ref s0, .ref q, .ref g]))]) (w' := fun (u : (Nat → Int32) × (Int32)) => [(h0, .inr (7, [.ref e0, .ref t, .ref k, .ref n, .ref j, .ref i0, .int kp, .ref b0, .ref s0, .ref q, .ref g])), (t, .inr (6, [.int ns, .int np, .int fu, .int fd, .int fi, .ref t1, .ref t2, .ref t3, .ref t4, .ref t5, .ref t6])), aI G t1 9 sz_, aI G t2 9 pt, aI G t3 9 fh, aI G t4 8 kd, aI G t5 8 nd, aI G t6 8 fw, (n, .inr (1, [.ref n1, .ref n2, .ref n3, .ref n4, .ref n5, .ref n6, .ref n7, .int gn7_10, .int gn8_11, .int u.2])), aI G n1 9 fn1_3, aI G n2 8 fn2_4, aI G n3 8 u.1, aI G n4 8 fn4_6, aI G n5 8 fn5_7, aI G n6 8 fn6_8, aI G n7 72 fn7_9]) (x_runV (As := [.ref t]) (rest := []) (n := 1) (C := RX1) (ci := 1) ⟨hx, hb, hml, hown, hts⟩ (k_X1_moveByDraws l G n n1 n2 n3 n4 n5 n6 n7 t t1 t2 t3 t4 t5 t6 _ fn1_3 fn2_4 fn3_5 fn4_6 fn5_7 fn6_8 fn7_9 gn7_10 gn8_11 gn9_12 ns np fu fd fi sz_ pt fh kd nd fw gT_20 gNs_21 gNp_22 gv_23 hp) gX7_drift_X1_moveByDraws rfl (by decide +kernel) ⟨Nat.le_trans (Nat.le_of_ble_eq_true rfl) hRf, Nat.le_trans (Nat.le_of_ble_eq_true rfl) hRl⟩ hKK hSS hS hA hP hD [8, 9, 10, 11, 12, 13, 14, 15, 1, 2, 3, 4, 5, 6, 7] (by decide) rfl rfl rfl 8 rfl rfl hl.1 rfl (Nat.le_of_ble_eq_true rfl) dX7_drift_31) hP hD hS hA [8, 9, 10, 11, 12, 13, 14, 15, 1, 2, 3, 4, 5, 6, 7] [0] [0, 9, 10, 11, 12, 13, 14, 15, 1, 2, 3, 4, 5, 6, 7, 8] rfl rfl (by decide) (by decide) (by decide) (fun _ => rfl) (fun  u H locs hw hP hD hS => ?_)
          obtain ⟨se2_25, sd2_26⟩ := u
          have hP : va_P G.1 vwCl [(h0, .inr (7, [.ref e0, .ref t, .ref k, .ref n, .ref j, .ref i0, .int kp, .ref b0, .ref s0, .ref q, .ref g])), (t, .inr (6, [.int ns, .int np, .int fu, .int fd, .int fi, .ref t1, .ref t2, .ref t3, .ref t4, .ref t5, .ref t6])), aI G t1 9 sz_, aI G t2 9 pt, aI G t3 9 fh, aI G t4 8 kd, aI G t5 8 nd, aI G t6 8 fw, (n, .inr (1, [.ref n1, .ref n2, .ref n3, .ref n4, .ref n5, .ref n6, .ref n7, .int gn7_10, .int gn8_11, .int sd2_26])), aI G n1 9 fn1_3, aI G n2 8 fn2_4, aI G n3 8 se2_25, aI G n4 8 fn4_6, aI G n5 8 fn5_7, aI G n6 8 fn6_8, aI G n7 72 fn7_9] H := hP
          have hD : va_D A [(h0, .inr (7, [.ref e0, .ref t, .ref k, .ref n, .ref j, .ref i0, .int kp, .ref b0, .ref s0, .ref q, .ref g])), (t, .inr (6, [.int ns, .int np, .int fu, .int fd, .int fi, .ref t1, .ref t2, .ref t3, .ref t4, .ref t5, .ref t6])), aI G t1 9 sz_, aI G t2 9 pt, aI G t3 9 fh, aI G t4 8 kd, aI G t5 8 nd, aI G t6 8 fw, (n, .inr (1, [.ref n1, .ref n2, .ref n3, .ref n4, .ref n5, .ref n6, .ref n7, .int gn7_10, .int gn8_11, .int sd2_26])), aI G n1 9 fn1_3, aI G n2 8 fn2_4, aI G n3 8 se2_25, aI G n4 8 fn4_6, aI G n5 8 fn5_7, aI G n6 8 fn6_8, aI G n7 72 fn7_9] := hD
          have hv := hv se2_25 sd2_26 hw
          refine lv_aload_n hx hb dX7_drift_34 rfl (lv_at hl 2 rfl) ?_
          refine va_get (D := G.1) (ci := 7) (v := .ref n) (C := RX7) (T := TX7) (N := 11) hx hb hts hinX7 hown hKK.1 hP 0 rfl rfl 3 (by decide) kl29 (fun _ h9 => h9) rfl dX7_drift_35 ?_
          refine lv_aload_n hx hb dX7_drift_38 rfl (lv_at hl 2 rfl) ?_
          refine va_get (D := G.1) (ci := 7) (v := .ref t) (C := RX7) (T := TX7) (N := 11) hx hb hts hinX7 hown hKK.1 hP 0 rfl rfl 1 (by decide) kl19 (fun _ h9 => h9) rfl dX7_drift_39 ?_
          obtain ⟨gT_27, gNs_28, gNp_29, gv_30, gM_31, hv⟩ := hv
          obtain ⟨hp, hv⟩ := hv
          refine x_calli (wr := [(h0, .inr (7, [.ref e0, .ref t, .ref k, .ref n, .ref j, .ref i0, .int kp, .ref b0, .ref s0, .ref q, .ref g]))]) (w' := fun (u : (Nat → Int32) × (Nat → Int32) × (Nat → Int32) × (Nat → Int32) × (Nat → Int32) × (Nat → Int32) × (Int32) × (Int32)) => [(h0, .inr (7, [.ref e0, .ref t, .ref k, .ref n, .ref j, .ref i0, .int kp, .ref b0, .ref s0, .ref q, .ref g])), (t, .inr (6, [.int ns, .int np, .int fu, .int fd, .int fi, .ref t1, .ref t2, .ref t3, .ref t4, .ref t5, .ref t6])), aI G t1 9 sz_, aI G t2 9 pt, aI G t3 9 fh, aI G t4 8 kd, aI G t5 8 nd, aI G t6 8 fw, (n, .inr (1, [.ref n1, .ref n2, .ref n3, .ref n4, .ref n5, .ref n6, .ref n7, .int u.2.2.2.2.2.2.1, .int u.2.2.2.2.2.2.2, .int sd2_26])), aI G n1 9 u.1, aI G n2 8 u.2.1, aI G n3 8 se2_25, aI G n4 8 u.2.2.1, aI G n5 8 u.2.2.2.1, aI G n6 8 u.2.2.2.2.1, aI G n7 72 u.2.2.2.2.2.1]) (x_runV (As := [.ref t]) (rest := []) (n := 1) (C := RX1) (ci := 1) ⟨hx, hb, hml, hown, hts⟩ (k_X1_passMinute l G n n1 n2 n3 n4 n5 n6 n7 t t1 t2 t3 t4 t5 t6 _ fn1_3 fn2_4 se2_25 fn4_6 fn5_7 fn6_8 fn7_9 gn7_10 gn8_11 sd2_26 ns np fu fd fi sz_ pt fh kd nd fw gT_27 gNs_28 gNp_29 gv_30 gM_31 hp) gX7_drift_X1_passMinute rfl (by decide +kernel) ⟨Nat.le_trans (Nat.le_of_ble_eq_true rfl) hRf, Nat.le_trans (Nat.le_of_ble_eq_true rfl) hRl⟩ hKK hSS hS hA hP hD [8, 9, 10, 11, 12, 13, 14, 15, 1, 2, 3, 4, 5, 6, 7] (by decide) rfl rfl rfl 8 rfl rfl hl.1 rfl (Nat.le_of_ble_eq_true rfl) dX7_drift_42) hP hD hS hA [8, 9, 10, 11, 12, 13, 14, 15, 1, 2, 3, 4, 5, 6, 7] [0] [0, 9, 10, 11, 12, 13, 14, 15, 1, 2, 3, 4, 5, 6, 7, 8] rfl rfl (by decide) (by decide) (by decide) (fun _ => rfl) (fun r_32 u H locs hw hP hD hS => ?_)
          obtain ⟨ht2_33, wm2_34, cd2_35, sl2_36, od2_37, ow2_38, lo2_39, mi2_40⟩ := u
          have hP : va_P G.1 vwCl [(h0, .inr (7, [.ref e0, .ref t, .ref k, .ref n, .ref j, .ref i0, .int kp, .ref b0, .ref s0, .ref q, .ref g])), (t, .inr (6, [.int ns, .int np, .int fu, .int fd, .int fi, .ref t1, .ref t2, .ref t3, .ref t4, .ref t5, .ref t6])), aI G t1 9 sz_, aI G t2 9 pt, aI G t3 9 fh, aI G t4 8 kd, aI G t5 8 nd, aI G t6 8 fw, (n, .inr (1, [.ref n1, .ref n2, .ref n3, .ref n4, .ref n5, .ref n6, .ref n7, .int lo2_39, .int mi2_40, .int sd2_26])), aI G n1 9 ht2_33, aI G n2 8 wm2_34, aI G n3 8 se2_25, aI G n4 8 cd2_35, aI G n5 8 sl2_36, aI G n6 8 od2_37, aI G n7 72 ow2_38] H := hP
          have hD : va_D A [(h0, .inr (7, [.ref e0, .ref t, .ref k, .ref n, .ref j, .ref i0, .int kp, .ref b0, .ref s0, .ref q, .ref g])), (t, .inr (6, [.int ns, .int np, .int fu, .int fd, .int fi, .ref t1, .ref t2, .ref t3, .ref t4, .ref t5, .ref t6])), aI G t1 9 sz_, aI G t2 9 pt, aI G t3 9 fh, aI G t4 8 kd, aI G t5 8 nd, aI G t6 8 fw, (n, .inr (1, [.ref n1, .ref n2, .ref n3, .ref n4, .ref n5, .ref n6, .ref n7, .int lo2_39, .int mi2_40, .int sd2_26])), aI G n1 9 ht2_33, aI G n2 8 wm2_34, aI G n3 8 se2_25, aI G n4 8 cd2_35, aI G n5 8 sl2_36, aI G n6 8 od2_37, aI G n7 72 ow2_38] := hD
          have hv := hv r_32 ht2_33 wm2_34 cd2_35 sl2_36 od2_37 ow2_38 lo2_39 mi2_40 hw
          refine lv_istore_n (lv' := [(2, .int r_32), (3, .int x3_14), (0, .ref h0), (1, .int x)]) hx hb dX7_drift_45 rfl hl (by decide) rfl (fun ls hl => ?_)
          refine lv_iinc (v := (x3_14 + 1)) (lv' := [(3, .int (x3_14 + 1)), (2, .int r_32), (0, .ref h0), (1, .int x)]) hx hb dX7_drift_46 hl (k := 1) rfl rfl (by decide) rfl (fun ls hl => ?_)
          refine lv_goto (tgt := 18) hx hb dX7_drift_49 (by decide) ?_
          exact ih_17 _ _ _ _ _ _ _ _ _ _ _ _ _ _ _ (Nat.lt_of_lt_of_le hv.2 (Nat.le_of_lt_succ hI_18)) hv.1 hP hD hS hl
    exact Lm_43 _ _ _ _ _ _ _ _ _ _ _ _ _ _ _ _ (Nat.lt_succ_self _) hi0 hP hD hS hl
  · have hv := hv.2 (tv_eq.mp hc_2)
    refine lv_ldc (v := (-1000000002)) hx hb hown kl72 dX7_drift_11 ?_
    exact x_iret (v := (-1000000002)) (ht, wm, se, cd, sl, od, ow, lo, mi, sd) hQ hx hb hr hlocks hS dX7_drift_13 hv hP hD
theorem v_X7_drift (l : Launch) (G : Gt) (h0 t t1 t2 t3 t4 t5 t6 n n1 n2 n3 n4 n5 n6 n7 : Nat) (sz : Nat) (e0 : Nat) (k : Nat) (j : Nat) (i0 : Nat) (b0 : Nat) (s0 : Nat) (q : Nat) (g : Nat) (kp : Int32) (ns : Int32) (np : Int32) (fu : Int32) (fd : Int32) (fi : Int32) (sz_ : Nat → Int32) (pt : Nat → Int32) (fh : Nat → Int32) (kd : Nat → Int32) (nd : Nat → Int32) (fw : Nat → Int32) (ht : Nat → Int32) (wm : Nat → Int32) (se : Nat → Int32) (cd : Nat → Int32) (sl : Nat → Int32) (od : Nat → Int32) (ow : Nat → Int32) (lo : Int32) (mi : Int32) (sd : Int32) (x : Int32) (T : Nat → Nat → Int) (Ns : Nat) (Np : Nat) (v : Nat → Int) (M : Int) (hp : TOK T Ns Np ∧ CT T Ns Np ns np fu fd fi sz_ pt kd nd ∧ CN Ns Np v ht wm se cd sl od ow lo mi sd ∧ NOK T Ns Np (fun _ => 2 * M) M v ∧ M ≤ 900000) : (¬ x < 1 ∧ ¬ 999 < x → ∃ (I18_15 : (Nat → Int32) → (Nat → Int32) → (Nat → Int32) → (Nat → Int32) → (Nat → Int32) → (Nat → Int32) → (Nat → Int32) → Int32 → Int32 → Int32 → Int32 → Int32 → Prop) (μ18_16 : (Nat → Int32) → (Nat → Int32) → (Nat → Int32) → (Nat → Int32) → (Nat → Int32) → (Nat → Int32) → (Nat → Int32) → Int32 → Int32 → Int32 → Int32 → Int32 → Nat), I18_15 ht wm se cd sl od ow lo mi sd 0 0 ∧ (∀ (fn1_3 : (Nat → Int32)) (fn2_4 : (Nat → Int32)) (fn3_5 : (Nat → Int32)) (fn4_6 : (Nat → Int32)) (fn5_7 : (Nat → Int32)) (fn6_8 : (Nat → Int32)) (fn7_9 : (Nat → Int32)) (gn7_10 : Int32) (gn8_11 : Int32) (gn9_12 : Int32) (x2_13 : Int32) (x3_14 : Int32), I18_15 fn1_3 fn2_4 fn3_5 fn4_6 fn5_7 fn6_8 fn7_9 gn7_10 gn8_11 gn9_12 x2_13 x3_14 → (x ≤ x3_14 → x2_13.toInt = (qDrift T Ns Np v x.toInt).1 ∧ CN Ns Np (qDrift T Ns Np v x.toInt).2 fn1_3 fn2_4 fn3_5 fn4_6 fn5_7 fn6_8 fn7_9 gn7_10 gn8_11 gn9_12) ∧ (¬ (x ≤ x3_14) → ∃ (gT_20 : Nat → Nat → Int) (gNs_21 : Nat) (gNp_22 : Nat) (gv_23 : Nat → Int), ((TOK gT_20 gNs_21 gNp_22 ∧ CT gT_20 gNs_21 gNp_22 ns np fu fd fi sz_ pt kd nd ∧ CN gNs_21 gNp_22 gv_23 fn1_3 fn2_4 fn3_5 fn4_6 fn5_7 fn6_8 fn7_9 gn7_10 gn8_11 gn9_12 ∧ 0 ≤ gv_23 133 ∧ gv_23 133 < 2147483648) ∧ (∀ (se2_25 : Nat → Int32) (sd2_26 : Int32), (CN gNs_21 gNp_22 (zWans gNs_21 gNp_22 gv_23 gNp_22) fn1_3 fn2_4 se2_25 fn4_6 fn5_7 fn6_8 fn7_9 gn7_10 gn8_11 sd2_26) → (∃ (gT_27 : Nat → Nat → Int) (gNs_28 : Nat) (gNp_29 : Nat) (gv_30 : Nat → Int) (gM_31 : Int), ((TOK gT_27 gNs_28 gNp_29 ∧ CT gT_27 gNs_28 gNp_29 ns np fu fd fi sz_ pt kd nd ∧ CN gNs_28 gNp_29 gv_30 fn1_3 fn2_4 se2_25 fn4_6 fn5_7 fn6_8 fn7_9 gn7_10 gn8_11 sd2_26 ∧ NOK gT_27 gNs_28 gNp_29 (fun _ => 2 * gM_31) gM_31 gv_30 ∧ gM_31 ≤ 1000000) ∧ (∀ (r_32 : Int32) (ht2_33 : Nat → Int32) (wm2_34 : Nat → Int32) (cd2_35 : Nat → Int32) (sl2_36 : Nat → Int32) (od2_37 : Nat → Int32) (ow2_38 : Nat → Int32) (lo2_39 : Int32) (mi2_40 : Int32), (r_32 = nI (zCs gT_27 (zPass gT_27 gNs_28 gNp_29 gv_30) gNp_29) ∧ CN gNs_28 gNp_29 (zPass gT_27 gNs_28 gNp_29 gv_30) ht2_33 wm2_34 se2_25 cd2_35 sl2_36 od2_37 ow2_38 lo2_39 mi2_40 sd2_26) → (I18_15 ht2_33 wm2_34 se2_25 cd2_35 sl2_36 od2_37 ow2_38 lo2_39 mi2_40 sd2_26 r_32 (x3_14 + 1) ∧ μ18_16 ht2_33 wm2_34 se2_25 cd2_35 sl2_36 od2_37 ow2_38 lo2_39 mi2_40 sd2_26 r_32 (x3_14 + 1) < μ18_16 fn1_3 fn2_4 fn3_5 fn4_6 fn5_7 fn6_8 fn7_9 gn7_10 gn8_11 gn9_12 x2_13 x3_14))))))))) ∧ (¬ (¬ x < 1 ∧ ¬ 999 < x) → ((-1000000002) : Int32).toInt = (qDrift T Ns Np v x.toInt).1 ∧ CN Ns Np (qDrift T Ns Np v x.toInt).2 ht wm se cd sl od ow lo mi sd) := by
  obtain ⟨hT, hC, hN, hO, hM⟩ := hp
  have t1 := hT.1
  have t2 := hT.2.1
  have hns : ns = nI Ns := hC.1
  have hnp : np = nI Np := hC.2.1
  have hc : (¬ x < 1 ∧ ¬ 999 < x) ↔ (1 ≤ x.toInt ∧ x.toInt ≤ 999) := wi_iff rfl rfl
  simp only [hc]
  refine ⟨fun hq => ?_, fun h => by rw [qDrift, if_neg h]; exact ⟨rfl, hN⟩⟩
  rw [qDrift, if_pos hq]
  obtain ⟨n, hn, rfl, hxn, hxt⟩ := in_nat (x := x) (n := 1000) (by omega) (by omega)
  rw [hxt]
  refine ⟨fun f1 f2 f3 f4 f5 f6 f7 g7 g8 g9 c z => ∃ i, i ≤ n ∧ z = nI i ∧ (0 < i → c = nI (zCs T (zDrift T Ns Np v i) Np)) ∧ CN Ns Np (zDrift T Ns Np v i) f1 f2 f3 f4 f5 f6 f7 g7 g8 g9, fun _ _ _ _ _ _ _ _ _ _ _ z => n - z.toNatClampNeg, ⟨0, by omega, rfl, fun q => absurd q (Nat.lt_irrefl _), hN⟩, ?_⟩
  rintro f1 f2 f3 f4 f5 f6 f7 g7 g8 g9 c z ⟨i, hi, rfl, hci, hNi⟩
  have ei : (nI i).toNatClampNeg = i := nI_clamp (by omega)
  have ei1 : nI i + 1 = nI (i + 1) := nI_1 i
  have ej : (nI (i + 1)).toNatClampNeg = i + 1 := nI_clamp (by omega)
  simp only [ei, ei1, ej]
  refine ⟨fun h => ?_, fun h => ?_⟩
  · have e : n = i := by have := (nI_leI (a := n) (b := i) (by omega) (by omega)).mp h; omega
    subst e
    refine ⟨?_, hNi⟩
    rw [hci (by omega), nI_toInt]
    exact Nat.lt_trans (zCs_lt T (zDrift T Ns Np v n) Np) (Nat.pow_lt_pow_right (by omega) (by omega))
  · have hlt : i < n := by
      rcases Nat.lt_or_ge i n with q | q
      · exact q
      · exact absurd ((nI_leI (by omega) (by omega)).mpr q) h
    have hOi := zDrift_ok hT hO i
    have bs := hOi.2.2.2.2.2.1
    refine ⟨T, Ns, Np, _, ⟨hT, hC, hNi, bs.1, bs.2⟩, fun s2 d2 hN2 => ⟨T, Ns, Np, _, M + i, ⟨hT, hC, hN2, zWans_ok hT hOi Np (Nat.le_refl _), by omega⟩, fun r a1 a2 a3 a4 a5 a6 a7 a8 hw => ⟨⟨i + 1, by omega, rfl, fun _ => hw.1, hw.2⟩, by omega⟩⟩⟩
theorem k_X7_drift (l : Launch) (G : Gt) (h0 t t1 t2 t3 t4 t5 t6 n n1 n2 n3 n4 n5 n6 n7 : Nat) (sz : Nat) (e0 : Nat) (k : Nat) (j : Nat) (i0 : Nat) (b0 : Nat) (s0 : Nat) (q : Nat) (g : Nat) (kp : Int32) (ns : Int32) (np : Int32) (fu : Int32) (fd : Int32) (fi : Int32) (sz_ : Nat → Int32) (pt : Nat → Int32) (fh : Nat → Int32) (kd : Nat → Int32) (nd : Nat → Int32) (fw : Nat → Int32) (ht : Nat → Int32) (wm : Nat → Int32) (se : Nat → Int32) (cd : Nat → Int32) (sl : Nat → Int32) (od : Nat → Int32) (ow : Nat → Int32) (lo : Int32) (mi : Int32) (sd : Int32) (x : Int32) (T : Nat → Nat → Int) (Ns : Nat) (Np : Nat) (v : Nat → Int) (M : Int) (hp : TOK T Ns Np ∧ CT T Ns Np ns np fu fd fi sz_ pt kd nd ∧ CN Ns Np v ht wm se cd sl od ow lo mi sd ∧ NOK T Ns Np (fun _ => 2 * M) M v ∧ M ≤ 900000) : MetI l yX7_drift wsX7_drift 4 95 G [.ref h0, .int x] [(h0, .inr (7, [.ref e0, .ref t, .ref k, .ref n, .ref j, .ref i0, .int kp, .ref b0, .ref s0, .ref q, .ref g])), (t, .inr (6, [.int ns, .int np, .int fu, .int fd, .int fi, .ref t1, .ref t2, .ref t3, .ref t4, .ref t5, .ref t6])), aI G t1 9 sz_, aI G t2 9 pt, aI G t3 9 fh, aI G t4 8 kd, aI G t5 8 nd, aI G t6 8 fw, (n, .inr (1, [.ref n1, .ref n2, .ref n3, .ref n4, .ref n5, .ref n6, .ref n7, .int lo, .int mi, .int sd])), aI G n1 9 ht, aI G n2 8 wm, aI G n3 8 se, aI G n4 8 cd, aI G n5 8 sl, aI G n6 8 od, aI G n7 72 ow] sz (fun (r : Int32) (u : (Nat → Int32) × (Nat → Int32) × (Nat → Int32) × (Nat → Int32) × (Nat → Int32) × (Nat → Int32) × (Nat → Int32) × (Int32) × (Int32) × (Int32)) => r.toInt = (qDrift T Ns Np v x.toInt).1 ∧ CN Ns Np (qDrift T Ns Np v x.toInt).2 u.1 u.2.1 u.2.2.1 u.2.2.2.1 u.2.2.2.2.1 u.2.2.2.2.2.1 u.2.2.2.2.2.2.1 u.2.2.2.2.2.2.2.1 u.2.2.2.2.2.2.2.2.1 u.2.2.2.2.2.2.2.2.2) (fun (u : (Nat → Int32) × (Nat → Int32) × (Nat → Int32) × (Nat → Int32) × (Nat → Int32) × (Nat → Int32) × (Nat → Int32) × (Int32) × (Int32) × (Int32)) => [(h0, .inr (7, [.ref e0, .ref t, .ref k, .ref n, .ref j, .ref i0, .int kp, .ref b0, .ref s0, .ref q, .ref g])), (t, .inr (6, [.int ns, .int np, .int fu, .int fd, .int fi, .ref t1, .ref t2, .ref t3, .ref t4, .ref t5, .ref t6])), aI G t1 9 sz_, aI G t2 9 pt, aI G t3 9 fh, aI G t4 8 kd, aI G t5 8 nd, aI G t6 8 fw, (n, .inr (1, [.ref n1, .ref n2, .ref n3, .ref n4, .ref n5, .ref n6, .ref n7, .int u.2.2.2.2.2.2.2.1, .int u.2.2.2.2.2.2.2.2.1, .int u.2.2.2.2.2.2.2.2.2])), aI G n1 9 u.1, aI G n2 8 u.2.1, aI G n3 8 u.2.2.1, aI G n4 8 u.2.2.2.1, aI G n5 8 u.2.2.2.2.1, aI G n6 8 u.2.2.2.2.2.1, aI G n7 72 u.2.2.2.2.2.2.1]) :=
  c_X7_drift l G h0 t t1 t2 t3 t4 t5 t6 n n1 n2 n3 n4 n5 n6 n7 sz e0 k j i0 b0 s0 q g kp ns np fu fd fi sz_ pt fh kd nd fw ht wm se cd sl od ow lo mi sd x T Ns Np v M (v_X7_drift l G h0 t t1 t2 t3 t4 t5 t6 n n1 n2 n3 n4 n5 n6 n7 sz e0 k j i0 b0 s0 q g kp ns np fu fd fi sz_ pt fh kd nd fw ht wm se cd sl od ow lo mi sd x T Ns Np v M hp)

set_option maxHeartbeats 4000000 in
set_option maxRecDepth 100000 in
theorem c_X7_own (l : Launch) (G : Gt) (h0 t t1 t2 t3 t4 t5 t6 n n1 n2 n3 n4 n5 n6 n7 : Nat) (sz : Nat) (e0 : Nat) (k : Nat) (j : Nat) (i0 : Nat) (b0 : Nat) (s0 : Nat) (q : Nat) (g : Nat) (kp : Int32) (ns : Int32) (np : Int32) (fu : Int32) (fd : Int32) (fi : Int32) (sz_ : Nat → Int32) (pt : Nat → Int32) (fh : Nat → Int32) (kd : Nat → Int32) (nd : Nat → Int32) (fw : Nat → Int32) (ht : Nat → Int32) (wm : Nat → Int32) (se : Nat → Int32) (cd : Nat → Int32) (sl : Nat → Int32) (od : Nat → Int32) (ow : Nat → Int32) (lo : Int32) (mi : Int32) (sd : Int32) (x : Int32) (y : Int32) (w0 : Int32) (T : Nat → Nat → Int) (Ns : Nat) (Np : Nat) (v : Nat → Int) (M : Int) (hv : (¬ (¬ x < 0 ∧ ¬ np ≤ x) → ((-1000000001) : Int32).toInt = (qOwn Ns Np v x.toInt y.toInt w0.toInt).1 ∧ CN Ns Np (qOwn Ns Np v x.toInt y.toInt w0.toInt).2 ht wm se cd sl od ow lo mi sd) ∧ (¬ x < 0 ∧ ¬ np ≤ x → (¬ y < 0 ∧ ¬ ns ≤ y → (¬ w0 < 1 ∧ ¬ 9999 < w0 → (vp_in (x * 9 + y) 72) ∧ ((vp_in (x * 9 + y) 72) ∧ ((vp_in (x * 9 + y) 72) ∧ ((((upd ow ((x * 9 + y).toNatClampNeg) (if 99999 < ((ow (x * 9 + y).toNatClampNeg) + w0) then 99999 else ((ow (x * 9 + y).toNatClampNeg) + w0))) (x * 9 + y).toNatClampNeg) : Int32).toInt = (qOwn Ns Np v x.toInt y.toInt w0.toInt).1 ∧ CN Ns Np (qOwn Ns Np v x.toInt y.toInt w0.toInt).2 ht wm se cd sl od (upd ow ((x * 9 + y).toNatClampNeg) (if 99999 < ((ow (x * 9 + y).toNatClampNeg) + w0) then 99999 else ((ow (x * 9 + y).toNatClampNeg) + w0))) lo mi sd)))) ∧ (¬ (¬ w0 < 1 ∧ ¬ 9999 < w0) → ((-1000000002) : Int32).toInt = (qOwn Ns Np v x.toInt y.toInt w0.toInt).1 ∧ CN Ns Np (qOwn Ns Np v x.toInt y.toInt w0.toInt).2 ht wm se cd sl od ow lo mi sd)) ∧ (¬ (¬ y < 0 ∧ ¬ ns ≤ y) → ((-1000000001) : Int32).toInt = (qOwn Ns Np v x.toInt y.toInt w0.toInt).1 ∧ CN Ns Np (qOwn Ns Np v x.toInt y.toInt w0.toInt).2 ht wm se cd sl od ow lo mi sd))) : MetI l yX7_own wsX7_own 1 22 G [.ref h0, .int x, .int y, .int w0] [(h0, .inr (7, [.ref e0, .ref t, .ref k, .ref n, .ref j, .ref i0, .int kp, .ref b0, .ref s0, .ref q, .ref g])), (t, .inr (6, [.int ns, .int np, .int fu, .int fd, .int fi, .ref t1, .ref t2, .ref t3, .ref t4, .ref t5, .ref t6])), aI G t1 9 sz_, aI G t2 9 pt, aI G t3 9 fh, aI G t4 8 kd, aI G t5 8 nd, aI G t6 8 fw, (n, .inr (1, [.ref n1, .ref n2, .ref n3, .ref n4, .ref n5, .ref n6, .ref n7, .int lo, .int mi, .int sd])), aI G n1 9 ht, aI G n2 8 wm, aI G n3 8 se, aI G n4 8 cd, aI G n5 8 sl, aI G n6 8 od, aI G n7 72 ow] sz (fun (r : Int32) (u : (Nat → Int32)) => r.toInt = (qOwn Ns Np v x.toInt y.toInt w0.toInt).1 ∧ CN Ns Np (qOwn Ns Np v x.toInt y.toInt w0.toInt).2 ht wm se cd sl od u lo mi sd) (fun (u : (Nat → Int32)) => [(h0, .inr (7, [.ref e0, .ref t, .ref k, .ref n, .ref j, .ref i0, .int kp, .ref b0, .ref s0, .ref q, .ref g])), (t, .inr (6, [.int ns, .int np, .int fu, .int fd, .int fi, .ref t1, .ref t2, .ref t3, .ref t4, .ref t5, .ref t6])), aI G t1 9 sz_, aI G t2 9 pt, aI G t3 9 fh, aI G t4 8 kd, aI G t5 8 nd, aI G t6 8 fw, (n, .inr (1, [.ref n1, .ref n2, .ref n3, .ref n4, .ref n5, .ref n6, .ref n7, .int lo, .int mi, .int sd])), aI G n1 9 ht, aI G n2 8 wm, aI G n3 8 se, aI G n4 8 cd, aI G n5 8 sl, aI G n6 8 od, aI G n7 72 u]) := by
  refine x_startI (cc := cX7_own) (maxL := 5) (ret := (some .int)) (by decide) rfl (Nat.le_of_ble_eq_true rfl) ?_
  intro p e s m args below meth c A R Q ls hRf hRl hQ C hP hD hS hA hSS hl
  obtain ⟨hx, hb, hr, hml, hown, hts, hlocks, hKK⟩ := C
  have hown : s.vm.findClass RX7 = some m.cls := hown
  have hl : lv_has ls 5 [(0, .ref h0), (1, .int x), (2, .int y), (3, .int w0)] := hl
  have hinX1 : ∀ w ∈ u_ws RX1 TX1 10, w ∈ wsX7_own := by decide +kernel
  have hinX7 : ∀ w ∈ u_ws RX7 TX7 11, w ∈ wsX7_own := by decide +kernel
  have kl143 := hts (.constant RX7 143 (-1000000001)) (by decide +kernel)
  have kl172 := hts (.fieldLink RX7 172 "WarmStones$Night" "owned" "[I") (by decide +kernel)
  have kl186 := hts (.constant RX7 186 (99999)) (by decide +kernel)
  have kl187 := hts (.methodLink RX7 187 Lib.Math.min.name) (by decide +kernel)
  have kl19 := hts (.fieldLink RX7 19 "WarmStones" "town" "LWarmStones$Town;") (by decide +kernel)
  have kl29 := hts (.fieldLink RX7 29 "WarmStones" "night" "LWarmStones$Night;") (by decide +kernel)
  have kl72 := hts (.constant RX7 72 (-1000000002)) (by decide +kernel)
  have km_c_min := hts (.code Lib.Math.min.name Lib.Math.min.code 2 (some .int)) (by decide +kernel)
  have km_i := hts (.initialized "java/lang/Math") (by decide +kernel)
  have km_s_min := hts (.static Lib.Math.min.name) (by decide +kernel)
  refine lv_aload_n hx hb dX7_own_0 rfl (lv_at hl 0 rfl) ?_
  refine va_get (D := G.1) (ci := 7) (v := .ref t) (C := RX7) (T := TX7) (N := 11) hx hb hts hinX7 hown hKK.1 hP 0 rfl rfl 1 (by decide) kl19 (fun _ h9 => h9) rfl dX7_own_1 ?_
  refine lv_iload_n hx hb dX7_own_4 rfl (lv_at hl 1 rfl) ?_
  refine x_calliR (x_runV (As := [.int x]) (rest := []) (n := 1) (C := RX6) (ci := 6) ⟨hx, hb, hml, hown, hts⟩ (k_X6_hasPerson l G t t1 t2 t3 t4 t5 t6 _ ns np fu fd fi sz_ pt fh kd nd fw x) gX7_own_X6_hasPerson rfl (by decide +kernel) ⟨Nat.le_trans (Nat.le_of_ble_eq_true rfl) hRf, Nat.le_trans (Nat.le_of_ble_eq_true rfl) hRl⟩ hKK hSS hS hA hP hD [1, 2, 3, 4, 5, 6, 7] (by decide) rfl rfl rfl 1 rfl rfl hl.1 rfl (Nat.le_of_ble_eq_true rfl) dX7_own_5) hP hD hS hA [1, 2, 3, 4, 5, 6, 7] rfl (fun r_1 _ H locs hw hP hS => ?_)
  replace hw := hw.symm; subst hw
  refine lv_if_eq (tgt := 22) hx hb dX7_own_8 (by decide) (fun hc_2 => ?_) (fun hc_2 => ?_)
  · have hv := hv.1 (tv_eq.mp hc_2)
    refine lv_ldc (v := (-1000000001)) hx hb hown kl143 dX7_own_22 ?_
    exact x_iret (v := (-1000000001)) ow hQ hx hb hr hlocks hS dX7_own_24 hv hP hD
  · have hv := hv.2 (tv_eqn.mp hc_2)
    refine lv_aload_n hx hb dX7_own_11 rfl (lv_at hl 0 rfl) ?_
    refine va_get (D := G.1) (ci := 7) (v := .ref t) (C := RX7) (T := TX7) (N := 11) hx hb hts hinX7 hown hKK.1 hP 0 rfl rfl 1 (by decide) kl19 (fun _ h9 => h9) rfl dX7_own_12 ?_
    refine lv_iload_n hx hb dX7_own_15 rfl (lv_at hl 2 rfl) ?_
    refine x_calliR (x_runV (As := [.int y]) (rest := []) (n := 1) (C := RX6) (ci := 6) ⟨hx, hb, hml, hown, hts⟩ (k_X6_hasStone l G t t1 t2 t3 t4 t5 t6 _ ns np fu fd fi sz_ pt fh kd nd fw y) gX7_own_X6_hasStone rfl (by decide +kernel) ⟨Nat.le_trans (Nat.le_of_ble_eq_true rfl) hRf, Nat.le_trans (Nat.le_of_ble_eq_true rfl) hRl⟩ hKK hSS hS hA hP hD [1, 2, 3, 4, 5, 6, 7] (by decide) rfl rfl rfl 1 rfl rfl hl.1 rfl (Nat.le_of_ble_eq_true rfl) dX7_own_16) hP hD hS hA [1, 2, 3, 4, 5, 6, 7] rfl (fun r_3 _ H locs hw hP hS => ?_)
    replace hw := hw.symm; subst hw
    refine lv_if_ne (tgt := 25) hx hb dX7_own_19 (by decide) (fun hc_4 => ?_) (fun hc_4 => ?_)
    · have hv := hv.1 (tv_eqn.mp hc_4)
      refine lv_iload_n hx hb dX7_own_25 rfl (lv_at hl 3 rfl) ?_
      refine lv_iconst (v := 1) hx hb dX7_own_26 (by decide) ?_
      refine lv_sipush (v := 9999) hx hb dX7_own_27 (by decide) ?_
      refine x_calliR (x_runS (As := [.int w0, .int 1, .int 9999]) (rest := []) (n := 3) ⟨hx, hb, hml, hown, hts⟩ (k_X7_within l G  _ w0 1 9999) gX7_own_X7_within rfl (by decide +kernel) ⟨Nat.le_trans (Nat.le_of_ble_eq_true rfl) hRf, Nat.le_trans (Nat.le_of_ble_eq_true rfl) hRl⟩ hKK hSS hS hA hP hD [] (by decide) rfl rfl hl.1 rfl (Nat.le_of_ble_eq_true rfl) dX7_own_30) hP hD hS hA [] rfl (fun r_5 _ H locs hw hP hS => ?_)
      replace hw := hw.symm; subst hw
      refine lv_if_ne (tgt := 39) hx hb dX7_own_33 (by decide) (fun hc_6 => ?_) (fun hc_6 => ?_)
      · have hv := hv.1 (tv_eqn.mp hc_6)
        refine lv_iload_n hx hb dX7_own_39 rfl (lv_at hl 1 rfl) ?_
        refine lv_iload_n hx hb dX7_own_40 rfl (lv_at hl 2 rfl) ?_
        refine x_calliR (x_runS (As := [.int x, .int y]) (rest := []) (n := 2) ⟨hx, hb, hml, hown, hts⟩ (k_X7_ownedAt l G  _ x y) gX7_own_X7_ownedAt rfl (by decide +kernel) ⟨Nat.le_trans (Nat.le_of_ble_eq_true rfl) hRf, Nat.le_trans (Nat.le_of_ble_eq_true rfl) hRl⟩ hKK hSS hS hA hP hD [] (by decide) rfl rfl hl.1 rfl (Nat.le_of_ble_eq_true rfl) dX7_own_41) hP hD hS hA [] rfl (fun r_7 _ H locs hw hP hS => ?_)
        replace hw := hw.symm; subst hw
        refine lv_istore (lv' := [(4, .int (x * 9 + y)), (0, .ref h0), (1, .int x), (2, .int y), (3, .int w0)]) hx hb dX7_own_44 hl (by decide) rfl (fun ls hl => ?_)
        refine lv_aload_n hx hb dX7_own_46 rfl (lv_at hl 1 rfl) ?_
        refine va_get (D := G.1) (ci := 7) (v := .ref n) (C := RX7) (T := TX7) (N := 11) hx hb hts hinX7 hown hKK.1 hP 0 rfl rfl 3 (by decide) kl29 (fun _ h9 => h9) rfl dX7_own_47 ?_
        refine va_get (D := G.1) (ci := 1) (v := .ref n7) (C := RX1) (T := TX1) (N := 10) hx hb hts hinX1 hown hKK.1 hP 8 rfl rfl 6 (by decide) kl172 (fun _ h9 => h9) rfl dX7_own_50 ?_
        refine lv_iload hx hb dX7_own_53 (lv_at hl 0 rfl) ?_
        refine lv_aload_n hx hb dX7_own_55 rfl (lv_at hl 1 rfl) ?_
        refine va_get (D := G.1) (ci := 7) (v := .ref n) (C := RX7) (T := TX7) (N := 11) hx hb hts hinX7 hown hKK.1 hP 0 rfl rfl 3 (by decide) kl29 (fun _ h9 => h9) rfl dX7_own_56 ?_
        refine va_get (D := G.1) (ci := 1) (v := .ref n7) (C := RX1) (T := TX1) (N := 10) hx hb hts hinX1 hown hKK.1 hP 8 rfl rfl 6 (by decide) kl172 (fun _ h9 => h9) rfl dX7_own_59 ?_
        refine lv_iload hx hb dX7_own_62 (lv_at hl 0 rfl) ?_
        obtain ⟨hin, hv⟩ := hv
        refine va_iald hx hb hKK.1 hP 15 0 rfl rfl hin dX7_own_64 ?_
        refine lv_iload_n hx hb dX7_own_65 rfl (lv_at hl 4 rfl) ?_
        refine lv_iadd hx hb dX7_own_66 ?_
        refine lv_ldc (v := 99999) hx hb hown kl186 dX7_own_67 ?_
        refine va_mmin hx hb (hml.trans hl.1.symm) hown kl187 km_s_min km_i km_c_min (Nat.le_trans (Nat.le_of_ble_eq_true rfl) hRf) (Nat.le_trans (Nat.le_of_ble_eq_true rfl) hRl) (Nat.zero_le _) (Nat.zero_le _) dX7_own_69 ?_
        obtain ⟨hin, hv⟩ := hv
        refine va_iast hx hb hKK.1 hP hD hS 15 0 rfl rfl hin dX7_own_72 (fun H locs hP hD hS => ?_)
        have hP : va_P G.1 vwCl [(h0, .inr (7, [.ref e0, .ref t, .ref k, .ref n, .ref j, .ref i0, .int kp, .ref b0, .ref s0, .ref q, .ref g])), (t, .inr (6, [.int ns, .int np, .int fu, .int fd, .int fi, .ref t1, .ref t2, .ref t3, .ref t4, .ref t5, .ref t6])), aI G t1 9 sz_, aI G t2 9 pt, aI G t3 9 fh, aI G t4 8 kd, aI G t5 8 nd, aI G t6 8 fw, (n, .inr (1, [.ref n1, .ref n2, .ref n3, .ref n4, .ref n5, .ref n6, .ref n7, .int lo, .int mi, .int sd])), aI G n1 9 ht, aI G n2 8 wm, aI G n3 8 se, aI G n4 8 cd, aI G n5 8 sl, aI G n6 8 od, aI G n7 72 (upd ow ((x * 9 + y).toNatClampNeg) (if 99999 < ((ow (x * 9 + y).toNatClampNeg) + w0) then 99999 else ((ow (x * 9 + y).toNatClampNeg) + w0)))] H := hP
        have hD : va_D A [(h0, .inr (7, [.ref e0, .ref t, .ref k, .ref n, .ref j, .ref i0, .int kp, .ref b0, .ref s0, .ref q, .ref g])), (t, .inr (6, [.int ns, .int np, .int fu, .int fd, .int fi, .ref t1, .ref t2, .ref t3, .ref t4, .ref t5, .ref t6])), aI G t1 9 sz_, aI G t2 9 pt, aI G t3 9 fh, aI G t4 8 kd, aI G t5 8 nd, aI G t6 8 fw, (n, .inr (1, [.ref n1, .ref n2, .ref n3, .ref n4, .ref n5, .ref n6, .ref n7, .int lo, .int mi, .int sd])), aI G n1 9 ht, aI G n2 8 wm, aI G n3 8 se, aI G n4 8 cd, aI G n5 8 sl, aI G n6 8 od, aI G n7 72 (upd ow ((x * 9 + y).toNatClampNeg) (if 99999 < ((ow (x * 9 + y).toNatClampNeg) + w0) then 99999 else ((ow (x * 9 + y).toNatClampNeg) + w0)))] := hD
        refine lv_aload_n hx hb dX7_own_73 rfl (lv_at hl 1 rfl) ?_
        refine va_get (D := G.1) (ci := 7) (v := .ref n) (C := RX7) (T := TX7) (N := 11) hx hb hts hinX7 hown hKK.1 hP 0 rfl rfl 3 (by decide) kl29 (fun _ h9 => h9) rfl dX7_own_74 ?_
        refine va_get (D := G.1) (ci := 1) (v := .ref n7) (C := RX1) (T := TX1) (N := 10) hx hb hts hinX1 hown hKK.1 hP 8 rfl rfl 6 (by decide) kl172 (fun _ h9 => h9) rfl dX7_own_77 ?_
        refine lv_iload hx hb dX7_own_80 (lv_at hl 0 rfl) ?_
        obtain ⟨hin, hv⟩ := hv
        refine va_iald hx hb hKK.1 hP 15 0 rfl rfl hin dX7_own_82 ?_
        exact x_iret (v := ((upd ow ((x * 9 + y).toNatClampNeg) (if 99999 < ((ow (x * 9 + y).toNatClampNeg) + w0) then 99999 else ((ow (x * 9 + y).toNatClampNeg) + w0))) (x * 9 + y).toNatClampNeg)) (upd ow ((x * 9 + y).toNatClampNeg) (if 99999 < ((ow (x * 9 + y).toNatClampNeg) + w0) then 99999 else ((ow (x * 9 + y).toNatClampNeg) + w0))) hQ hx hb hr hlocks hS dX7_own_83 hv hP hD
      · have hv := hv.2 (tv_eq.mp hc_6)
        refine lv_ldc (v := (-1000000002)) hx hb hown kl72 dX7_own_36 ?_
        exact x_iret (v := (-1000000002)) ow hQ hx hb hr hlocks hS dX7_own_38 hv hP hD
    · have hv := hv.2 (tv_eq.mp hc_4)
      refine lv_ldc (v := (-1000000001)) hx hb hown kl143 dX7_own_22 ?_
      exact x_iret (v := (-1000000001)) ow hQ hx hb hr hlocks hS dX7_own_24 hv hP hD
theorem v_X7_own (l : Launch) (G : Gt) (h0 t t1 t2 t3 t4 t5 t6 n n1 n2 n3 n4 n5 n6 n7 : Nat) (sz : Nat) (e0 : Nat) (k : Nat) (j : Nat) (i0 : Nat) (b0 : Nat) (s0 : Nat) (q : Nat) (g : Nat) (kp : Int32) (ns : Int32) (np : Int32) (fu : Int32) (fd : Int32) (fi : Int32) (sz_ : Nat → Int32) (pt : Nat → Int32) (fh : Nat → Int32) (kd : Nat → Int32) (nd : Nat → Int32) (fw : Nat → Int32) (ht : Nat → Int32) (wm : Nat → Int32) (se : Nat → Int32) (cd : Nat → Int32) (sl : Nat → Int32) (od : Nat → Int32) (ow : Nat → Int32) (lo : Int32) (mi : Int32) (sd : Int32) (x : Int32) (y : Int32) (w0 : Int32) (T : Nat → Nat → Int) (Ns : Nat) (Np : Nat) (v : Nat → Int) (M : Int) (hp : TOK T Ns Np ∧ CT T Ns Np ns np fu fd fi sz_ pt kd nd ∧ CN Ns Np v ht wm se cd sl od ow lo mi sd ∧ NOK T Ns Np (fun _ => 2 * M) M v ∧ M ≤ 900000) : (¬ (¬ x < 0 ∧ ¬ np ≤ x) → ((-1000000001) : Int32).toInt = (qOwn Ns Np v x.toInt y.toInt w0.toInt).1 ∧ CN Ns Np (qOwn Ns Np v x.toInt y.toInt w0.toInt).2 ht wm se cd sl od ow lo mi sd) ∧ (¬ x < 0 ∧ ¬ np ≤ x → (¬ y < 0 ∧ ¬ ns ≤ y → (¬ w0 < 1 ∧ ¬ 9999 < w0 → (vp_in (x * 9 + y) 72) ∧ ((vp_in (x * 9 + y) 72) ∧ ((vp_in (x * 9 + y) 72) ∧ ((((upd ow ((x * 9 + y).toNatClampNeg) (if 99999 < ((ow (x * 9 + y).toNatClampNeg) + w0) then 99999 else ((ow (x * 9 + y).toNatClampNeg) + w0))) (x * 9 + y).toNatClampNeg) : Int32).toInt = (qOwn Ns Np v x.toInt y.toInt w0.toInt).1 ∧ CN Ns Np (qOwn Ns Np v x.toInt y.toInt w0.toInt).2 ht wm se cd sl od (upd ow ((x * 9 + y).toNatClampNeg) (if 99999 < ((ow (x * 9 + y).toNatClampNeg) + w0) then 99999 else ((ow (x * 9 + y).toNatClampNeg) + w0))) lo mi sd)))) ∧ (¬ (¬ w0 < 1 ∧ ¬ 9999 < w0) → ((-1000000002) : Int32).toInt = (qOwn Ns Np v x.toInt y.toInt w0.toInt).1 ∧ CN Ns Np (qOwn Ns Np v x.toInt y.toInt w0.toInt).2 ht wm se cd sl od ow lo mi sd)) ∧ (¬ (¬ y < 0 ∧ ¬ ns ≤ y) → ((-1000000001) : Int32).toInt = (qOwn Ns Np v x.toInt y.toInt w0.toInt).1 ∧ CN Ns Np (qOwn Ns Np v x.toInt y.toInt w0.toInt).2 ht wm se cd sl od ow lo mi sd)) := by
  obtain ⟨hT, hC, hN, hO, hM⟩ := hp
  have t1 := hT.1
  have t2 := hT.2.1
  have hns : ns = nI Ns := hC.1
  have hnp : np = nI Np := hC.2.1
  have hp_ := hs_iff (x := x) hnp (by omega)
  have hs_ := hs_iff (x := y) hns (by omega)
  have hz_ : (¬ w0 < 1 ∧ ¬ 9999 < w0) ↔ (1 ≤ w0.toInt ∧ w0.toInt ≤ 9999) := wi_iff rfl rfl
  have e9 : ∀ i b : Nat, nI i * 9 + nI b = nI (9 * i + b) := fun i b => by rw [show (9 : Int32) = nI 9 from rfl, pk_mul, nI_add, Nat.mul_comm]
  simp only [hp_, hs_, hz_]
  refine ⟨fun h1 => ?_, fun h1 => ⟨fun h2 => ⟨fun h3 => ?_, fun h3 => ?_⟩, fun h2 => ?_⟩⟩
  · rw [qOwn, if_pos (Or.inl h1)]; exact ⟨rfl, hN⟩
  · have eq : qOwn Ns Np v x.toInt y.toInt w0.toInt = (minZ (v (60 + (9 * x.toInt.toNat + y.toInt.toNat)) + w0.toInt) 99999, uz v (60 + (9 * x.toInt.toNat + y.toInt.toNat)) (minZ (v (60 + (9 * x.toInt.toNat + y.toInt.toNat)) + w0.toInt) 99999)) := by
      rw [qOwn, if_neg (fun q => q.elim (fun q => q h1) (fun q => q h2)), if_neg (fun q => q h3)]
    rw [eq]
    obtain ⟨i, hi, rfl, hxi, hxt⟩ := in_nat h1 (by omega)
    obtain ⟨b, hb, rfl, hyb, hyt⟩ := in_nat h2 (by omega)
    rw [hxt, hyt]
    have c : (nI (9 * i + b)).toNatClampNeg = 9 * i + b := nI_clamp (by omega)
    have vo : vp_in (nI (9 * i + b)) 72 := vp_in_nI (by omega) (by omega)
    have bo := hO.2.2.2.1 i b hi hb
    simp only [e9, c]
    refine ⟨vo, vo, vo, ?_⟩
    have eo := hN.o t2 t1 hi hb
    have ea := i_add eo (show w0.toInt = w0.toInt from rfl) (by omega) (by omega)
    have em : (if 99999 < ow (9 * i + b) + w0 then 99999 else ow (9 * i + b) + w0).toInt = minZ (v (60 + (9 * i + b)) + w0.toInt) 99999 := i_if (i_lt (show (99999 : Int32).toInt = 99999 from rfl) ea) (show (99999 : Int32).toInt = 99999 from rfl) ea
    generalize (if 99999 < ow (9 * i + b) + w0 then 99999 else ow (9 * i + b) + w0) = A at em ⊢
    exact ⟨by rw [upd_at]; exact em, CN_ow hN (by omega) em⟩
  · rw [qOwn, if_neg (fun q => q.elim (fun q => q h1) (fun q => q h2)), if_pos h3]; exact ⟨rfl, hN⟩
  · rw [qOwn, if_pos (Or.inr h2)]; exact ⟨rfl, hN⟩
theorem k_X7_own (l : Launch) (G : Gt) (h0 t t1 t2 t3 t4 t5 t6 n n1 n2 n3 n4 n5 n6 n7 : Nat) (sz : Nat) (e0 : Nat) (k : Nat) (j : Nat) (i0 : Nat) (b0 : Nat) (s0 : Nat) (q : Nat) (g : Nat) (kp : Int32) (ns : Int32) (np : Int32) (fu : Int32) (fd : Int32) (fi : Int32) (sz_ : Nat → Int32) (pt : Nat → Int32) (fh : Nat → Int32) (kd : Nat → Int32) (nd : Nat → Int32) (fw : Nat → Int32) (ht : Nat → Int32) (wm : Nat → Int32) (se : Nat → Int32) (cd : Nat → Int32) (sl : Nat → Int32) (od : Nat → Int32) (ow : Nat → Int32) (lo : Int32) (mi : Int32) (sd : Int32) (x : Int32) (y : Int32) (w0 : Int32) (T : Nat → Nat → Int) (Ns : Nat) (Np : Nat) (v : Nat → Int) (M : Int) (hp : TOK T Ns Np ∧ CT T Ns Np ns np fu fd fi sz_ pt kd nd ∧ CN Ns Np v ht wm se cd sl od ow lo mi sd ∧ NOK T Ns Np (fun _ => 2 * M) M v ∧ M ≤ 900000) : MetI l yX7_own wsX7_own 1 22 G [.ref h0, .int x, .int y, .int w0] [(h0, .inr (7, [.ref e0, .ref t, .ref k, .ref n, .ref j, .ref i0, .int kp, .ref b0, .ref s0, .ref q, .ref g])), (t, .inr (6, [.int ns, .int np, .int fu, .int fd, .int fi, .ref t1, .ref t2, .ref t3, .ref t4, .ref t5, .ref t6])), aI G t1 9 sz_, aI G t2 9 pt, aI G t3 9 fh, aI G t4 8 kd, aI G t5 8 nd, aI G t6 8 fw, (n, .inr (1, [.ref n1, .ref n2, .ref n3, .ref n4, .ref n5, .ref n6, .ref n7, .int lo, .int mi, .int sd])), aI G n1 9 ht, aI G n2 8 wm, aI G n3 8 se, aI G n4 8 cd, aI G n5 8 sl, aI G n6 8 od, aI G n7 72 ow] sz (fun (r : Int32) (u : (Nat → Int32)) => r.toInt = (qOwn Ns Np v x.toInt y.toInt w0.toInt).1 ∧ CN Ns Np (qOwn Ns Np v x.toInt y.toInt w0.toInt).2 ht wm se cd sl od u lo mi sd) (fun (u : (Nat → Int32)) => [(h0, .inr (7, [.ref e0, .ref t, .ref k, .ref n, .ref j, .ref i0, .int kp, .ref b0, .ref s0, .ref q, .ref g])), (t, .inr (6, [.int ns, .int np, .int fu, .int fd, .int fi, .ref t1, .ref t2, .ref t3, .ref t4, .ref t5, .ref t6])), aI G t1 9 sz_, aI G t2 9 pt, aI G t3 9 fh, aI G t4 8 kd, aI G t5 8 nd, aI G t6 8 fw, (n, .inr (1, [.ref n1, .ref n2, .ref n3, .ref n4, .ref n5, .ref n6, .ref n7, .int lo, .int mi, .int sd])), aI G n1 9 ht, aI G n2 8 wm, aI G n3 8 se, aI G n4 8 cd, aI G n5 8 sl, aI G n6 8 od, aI G n7 72 u]) :=
  c_X7_own l G h0 t t1 t2 t3 t4 t5 t6 n n1 n2 n3 n4 n5 n6 n7 sz e0 k j i0 b0 s0 q g kp ns np fu fd fi sz_ pt fh kd nd fw ht wm se cd sl od ow lo mi sd x y w0 T Ns Np v M (v_X7_own l G h0 t t1 t2 t3 t4 t5 t6 n n1 n2 n3 n4 n5 n6 n7 sz e0 k j i0 b0 s0 q g kp ns np fu fd fi sz_ pt fh kd nd fw ht wm se cd sl od ow lo mi sd x y w0 T Ns Np v M hp)

set_option maxHeartbeats 4000000 in
set_option maxRecDepth 100000 in
theorem c_X7_trade (l : Launch) (G : Gt) (h0 t t1 t2 t3 t4 t5 t6 n n1 n2 n3 n4 n5 n6 n7 : Nat) (sz : Nat) (e0 : Nat) (k : Nat) (j : Nat) (i0 : Nat) (b0 : Nat) (s0 : Nat) (q : Nat) (g : Nat) (kp : Int32) (ns : Int32) (np : Int32) (fu : Int32) (fd : Int32) (fi : Int32) (sz_ : Nat → Int32) (pt : Nat → Int32) (fh : Nat → Int32) (kd : Nat → Int32) (nd : Nat → Int32) (fw : Nat → Int32) (ht : Nat → Int32) (wm : Nat → Int32) (se : Nat → Int32) (cd : Nat → Int32) (sl : Nat → Int32) (od : Nat → Int32) (ow : Nat → Int32) (lo : Int32) (mi : Int32) (sd : Int32) (x : Int32) (y : Int32) (w0 : Int32) (w1 : Int32) (T : Nat → Nat → Int) (Ns : Nat) (Np : Nat) (v : Nat → Int) (M : Int) (hv : (¬ (¬ x < 0 ∧ ¬ np ≤ x) → ((-1000000001) : Int32).toInt = (qTrade Ns Np v x.toInt y.toInt w0.toInt w1.toInt).1 ∧ CN Ns Np (qTrade Ns Np v x.toInt y.toInt w0.toInt w1.toInt).2 ht wm se cd sl od ow lo mi sd) ∧ (¬ x < 0 ∧ ¬ np ≤ x → (¬ (¬ y < 0 ∧ ¬ np ≤ y) → ((-1000000001) : Int32).toInt = (qTrade Ns Np v x.toInt y.toInt w0.toInt w1.toInt).1 ∧ CN Ns Np (qTrade Ns Np v x.toInt y.toInt w0.toInt w1.toInt).2 ht wm se cd sl od ow lo mi sd) ∧ (¬ y < 0 ∧ ¬ np ≤ y → (x = y → ((-1000000001) : Int32).toInt = (qTrade Ns Np v x.toInt y.toInt w0.toInt w1.toInt).1 ∧ CN Ns Np (qTrade Ns Np v x.toInt y.toInt w0.toInt w1.toInt).2 ht wm se cd sl od ow lo mi sd) ∧ (¬ (x = y) → (¬ w0 < 0 ∧ ¬ ns ≤ w0 → (¬ w1 < 1 ∧ ¬ 9999 < w1 → (vp_in (x * 9 + w0) 72) ∧ ((w1 ≤ (ow (x * 9 + w0).toNatClampNeg) → (vp_in (y * 9 + w0) 72) ∧ ((((ow (y * 9 + w0).toNatClampNeg) + w1) ≤ 99999 → (vp_in (x * 9 + w0) 72) ∧ ((vp_in (x * 9 + w0) 72) ∧ ((vp_in (y * 9 + w0) 72) ∧ ((vp_in (y * 9 + w0) 72) ∧ ((vp_in (x * 9 + w0) 72) ∧ (((upd (upd ow ((x * 9 + w0).toNatClampNeg) ((ow (x * 9 + w0).toNatClampNeg) - w1)) ((y * 9 + w0).toNatClampNeg) (((upd ow ((x * 9 + w0).toNatClampNeg) ((ow (x * 9 + w0).toNatClampNeg) - w1)) (y * 9 + w0).toNatClampNeg) + w1)) (x * 9 + w0).toNatClampNeg).toInt = (qTrade Ns Np v x.toInt y.toInt w0.toInt w1.toInt).1 ∧ CN Ns Np (qTrade Ns Np v x.toInt y.toInt w0.toInt w1.toInt).2 ht wm se cd sl od (upd (upd ow ((x * 9 + w0).toNatClampNeg) ((ow (x * 9 + w0).toNatClampNeg) - w1)) ((y * 9 + w0).toNatClampNeg) (((upd ow ((x * 9 + w0).toNatClampNeg) ((ow (x * 9 + w0).toNatClampNeg) - w1)) (y * 9 + w0).toNatClampNeg) + w1)) lo mi sd)))))) ∧ (¬ (((ow (y * 9 + w0).toNatClampNeg) + w1) ≤ 99999) → ((-1000000004) : Int32).toInt = (qTrade Ns Np v x.toInt y.toInt w0.toInt w1.toInt).1 ∧ CN Ns Np (qTrade Ns Np v x.toInt y.toInt w0.toInt w1.toInt).2 ht wm se cd sl od ow lo mi sd))) ∧ (¬ (w1 ≤ (ow (x * 9 + w0).toNatClampNeg)) → ((-1000000003) : Int32).toInt = (qTrade Ns Np v x.toInt y.toInt w0.toInt w1.toInt).1 ∧ CN Ns Np (qTrade Ns Np v x.toInt y.toInt w0.toInt w1.toInt).2 ht wm se cd sl od ow lo mi sd))) ∧ (¬ (¬ w1 < 1 ∧ ¬ 9999 < w1) → ((-1000000002) : Int32).toInt = (qTrade Ns Np v x.toInt y.toInt w0.toInt w1.toInt).1 ∧ CN Ns Np (qTrade Ns Np v x.toInt y.toInt w0.toInt w1.toInt).2 ht wm se cd sl od ow lo mi sd)) ∧ (¬ (¬ w0 < 0 ∧ ¬ ns ≤ w0) → ((-1000000001) : Int32).toInt = (qTrade Ns Np v x.toInt y.toInt w0.toInt w1.toInt).1 ∧ CN Ns Np (qTrade Ns Np v x.toInt y.toInt w0.toInt w1.toInt).2 ht wm se cd sl od ow lo mi sd))))) : MetI l yX7_trade wsX7_trade 1 22 G [.ref h0, .int x, .int y, .int w0, .int w1] [(h0, .inr (7, [.ref e0, .ref t, .ref k, .ref n, .ref j, .ref i0, .int kp, .ref b0, .ref s0, .ref q, .ref g])), (t, .inr (6, [.int ns, .int np, .int fu, .int fd, .int fi, .ref t1, .ref t2, .ref t3, .ref t4, .ref t5, .ref t6])), aI G t1 9 sz_, aI G t2 9 pt, aI G t3 9 fh, aI G t4 8 kd, aI G t5 8 nd, aI G t6 8 fw, (n, .inr (1, [.ref n1, .ref n2, .ref n3, .ref n4, .ref n5, .ref n6, .ref n7, .int lo, .int mi, .int sd])), aI G n1 9 ht, aI G n2 8 wm, aI G n3 8 se, aI G n4 8 cd, aI G n5 8 sl, aI G n6 8 od, aI G n7 72 ow] sz (fun (r : Int32) (u : (Nat → Int32)) => r.toInt = (qTrade Ns Np v x.toInt y.toInt w0.toInt w1.toInt).1 ∧ CN Ns Np (qTrade Ns Np v x.toInt y.toInt w0.toInt w1.toInt).2 ht wm se cd sl od u lo mi sd) (fun (u : (Nat → Int32)) => [(h0, .inr (7, [.ref e0, .ref t, .ref k, .ref n, .ref j, .ref i0, .int kp, .ref b0, .ref s0, .ref q, .ref g])), (t, .inr (6, [.int ns, .int np, .int fu, .int fd, .int fi, .ref t1, .ref t2, .ref t3, .ref t4, .ref t5, .ref t6])), aI G t1 9 sz_, aI G t2 9 pt, aI G t3 9 fh, aI G t4 8 kd, aI G t5 8 nd, aI G t6 8 fw, (n, .inr (1, [.ref n1, .ref n2, .ref n3, .ref n4, .ref n5, .ref n6, .ref n7, .int lo, .int mi, .int sd])), aI G n1 9 ht, aI G n2 8 wm, aI G n3 8 se, aI G n4 8 cd, aI G n5 8 sl, aI G n6 8 od, aI G n7 72 u]) := by
  refine x_startI (cc := cX7_trade) (maxL := 7) (ret := (some .int)) (by decide) rfl (Nat.le_of_ble_eq_true rfl) ?_
  intro p e s m args below meth c A R Q ls hRf hRl hQ C hP hD hS hA hSS hl
  obtain ⟨hx, hb, hr, hml, hown, hts, hlocks, hKK⟩ := C
  have hown : s.vm.findClass RX7 = some m.cls := hown
  have hl : lv_has ls 7 [(0, .ref h0), (1, .int x), (2, .int y), (3, .int w0), (4, .int w1)] := hl
  have hinX1 : ∀ w ∈ u_ws RX1 TX1 10, w ∈ wsX7_trade := by decide +kernel
  have hinX7 : ∀ w ∈ u_ws RX7 TX7 11, w ∈ wsX7_trade := by decide +kernel
  have kl143 := hts (.constant RX7 143 (-1000000001)) (by decide +kernel)
  have kl172 := hts (.fieldLink RX7 172 "WarmStones$Night" "owned" "[I") (by decide +kernel)
  have kl179 := hts (.constant RX7 179 (-1000000003)) (by decide +kernel)
  have kl186 := hts (.constant RX7 186 (99999)) (by decide +kernel)
  have kl19 := hts (.fieldLink RX7 19 "WarmStones" "town" "LWarmStones$Town;") (by decide +kernel)
  have kl29 := hts (.fieldLink RX7 29 "WarmStones" "night" "LWarmStones$Night;") (by decide +kernel)
  have kl72 := hts (.constant RX7 72 (-1000000002)) (by decide +kernel)
  have kl77 := hts (.constant RX7 77 (-1000000004)) (by decide +kernel)
  refine lv_aload_n hx hb dX7_trade_0 rfl (lv_at hl 0 rfl) ?_
  refine va_get (D := G.1) (ci := 7) (v := .ref t) (C := RX7) (T := TX7) (N := 11) hx hb hts hinX7 hown hKK.1 hP 0 rfl rfl 1 (by decide) kl19 (fun _ h9 => h9) rfl dX7_trade_1 ?_
  refine lv_iload_n hx hb dX7_trade_4 rfl (lv_at hl 1 rfl) ?_
  refine x_calliR (x_runV (As := [.int x]) (rest := []) (n := 1) (C := RX6) (ci := 6) ⟨hx, hb, hml, hown, hts⟩ (k_X6_hasPerson l G t t1 t2 t3 t4 t5 t6 _ ns np fu fd fi sz_ pt fh kd nd fw x) gX7_trade_X6_hasPerson rfl (by decide +kernel) ⟨Nat.le_trans (Nat.le_of_ble_eq_true rfl) hRf, Nat.le_trans (Nat.le_of_ble_eq_true rfl) hRl⟩ hKK hSS hS hA hP hD [1, 2, 3, 4, 5, 6, 7] (by decide) rfl rfl rfl 1 rfl rfl hl.1 rfl (Nat.le_of_ble_eq_true rfl) dX7_trade_5) hP hD hS hA [1, 2, 3, 4, 5, 6, 7] rfl (fun r_1 _ H locs hw hP hS => ?_)
  replace hw := hw.symm; subst hw
  refine lv_if_eq (tgt := 38) hx hb dX7_trade_8 (by decide) (fun hc_2 => ?_) (fun hc_2 => ?_)
  · have hv := hv.1 (tv_eq.mp hc_2)
    refine lv_ldc (v := (-1000000001)) hx hb hown kl143 dX7_trade_38 ?_
    exact x_iret (v := (-1000000001)) ow hQ hx hb hr hlocks hS dX7_trade_40 hv hP hD
  · have hv := hv.2 (tv_eqn.mp hc_2)
    refine lv_aload_n hx hb dX7_trade_11 rfl (lv_at hl 0 rfl) ?_
    refine va_get (D := G.1) (ci := 7) (v := .ref t) (C := RX7) (T := TX7) (N := 11) hx hb hts hinX7 hown hKK.1 hP 0 rfl rfl 1 (by decide) kl19 (fun _ h9 => h9) rfl dX7_trade_12 ?_
    refine lv_iload_n hx hb dX7_trade_15 rfl (lv_at hl 2 rfl) ?_
    refine x_calliR (x_runV (As := [.int y]) (rest := []) (n := 1) (C := RX6) (ci := 6) ⟨hx, hb, hml, hown, hts⟩ (k_X6_hasPerson l G t t1 t2 t3 t4 t5 t6 _ ns np fu fd fi sz_ pt fh kd nd fw y) gX7_trade_X6_hasPerson rfl (by decide +kernel) ⟨Nat.le_trans (Nat.le_of_ble_eq_true rfl) hRf, Nat.le_trans (Nat.le_of_ble_eq_true rfl) hRl⟩ hKK hSS hS hA hP hD [1, 2, 3, 4, 5, 6, 7] (by decide) rfl rfl rfl 1 rfl rfl hl.1 rfl (Nat.le_of_ble_eq_true rfl) dX7_trade_16) hP hD hS hA [1, 2, 3, 4, 5, 6, 7] rfl (fun r_3 _ H locs hw hP hS => ?_)
    replace hw := hw.symm; subst hw
    refine lv_if_eq (tgt := 38) hx hb dX7_trade_19 (by decide) (fun hc_4 => ?_) (fun hc_4 => ?_)
    · have hv := hv.1 (tv_eq.mp hc_4)
      refine lv_ldc (v := (-1000000001)) hx hb hown kl143 dX7_trade_38 ?_
      exact x_iret (v := (-1000000001)) ow hQ hx hb hr hlocks hS dX7_trade_40 hv hP hD
    · have hv := hv.2 (tv_eqn.mp hc_4)
      refine lv_iload_n hx hb dX7_trade_22 rfl (lv_at hl 1 rfl) ?_
      refine lv_iload_n hx hb dX7_trade_23 rfl (lv_at hl 2 rfl) ?_
      refine lv_icmp_eq (tgt := 38) hx hb dX7_trade_24 (by decide) (fun hc_5 => ?_) (fun hc_5 => ?_)
      · have hv := hv.1 hc_5
        refine lv_ldc (v := (-1000000001)) hx hb hown kl143 dX7_trade_38 ?_
        exact x_iret (v := (-1000000001)) ow hQ hx hb hr hlocks hS dX7_trade_40 hv hP hD
      · have hv := hv.2 hc_5
        refine lv_aload_n hx hb dX7_trade_27 rfl (lv_at hl 0 rfl) ?_
        refine va_get (D := G.1) (ci := 7) (v := .ref t) (C := RX7) (T := TX7) (N := 11) hx hb hts hinX7 hown hKK.1 hP 0 rfl rfl 1 (by decide) kl19 (fun _ h9 => h9) rfl dX7_trade_28 ?_
        refine lv_iload_n hx hb dX7_trade_31 rfl (lv_at hl 3 rfl) ?_
        refine x_calliR (x_runV (As := [.int w0]) (rest := []) (n := 1) (C := RX6) (ci := 6) ⟨hx, hb, hml, hown, hts⟩ (k_X6_hasStone l G t t1 t2 t3 t4 t5 t6 _ ns np fu fd fi sz_ pt fh kd nd fw w0) gX7_trade_X6_hasStone rfl (by decide +kernel) ⟨Nat.le_trans (Nat.le_of_ble_eq_true rfl) hRf, Nat.le_trans (Nat.le_of_ble_eq_true rfl) hRl⟩ hKK hSS hS hA hP hD [1, 2, 3, 4, 5, 6, 7] (by decide) rfl rfl rfl 1 rfl rfl hl.1 rfl (Nat.le_of_ble_eq_true rfl) dX7_trade_32) hP hD hS hA [1, 2, 3, 4, 5, 6, 7] rfl (fun r_6 _ H locs hw hP hS => ?_)
        replace hw := hw.symm; subst hw
        refine lv_if_ne (tgt := 41) hx hb dX7_trade_35 (by decide) (fun hc_7 => ?_) (fun hc_7 => ?_)
        · have hv := hv.1 (tv_eqn.mp hc_7)
          refine lv_iload hx hb dX7_trade_41 (lv_at hl 4 rfl) ?_
          refine lv_iconst (v := 1) hx hb dX7_trade_43 (by decide) ?_
          refine lv_sipush (v := 9999) hx hb dX7_trade_44 (by decide) ?_
          refine x_calliR (x_runS (As := [.int w1, .int 1, .int 9999]) (rest := []) (n := 3) ⟨hx, hb, hml, hown, hts⟩ (k_X7_within l G  _ w1 1 9999) gX7_trade_X7_within rfl (by decide +kernel) ⟨Nat.le_trans (Nat.le_of_ble_eq_true rfl) hRf, Nat.le_trans (Nat.le_of_ble_eq_true rfl) hRl⟩ hKK hSS hS hA hP hD [] (by decide) rfl rfl hl.1 rfl (Nat.le_of_ble_eq_true rfl) dX7_trade_47) hP hD hS hA [] rfl (fun r_8 _ H locs hw hP hS => ?_)
          replace hw := hw.symm; subst hw
          refine lv_if_ne (tgt := 56) hx hb dX7_trade_50 (by decide) (fun hc_9 => ?_) (fun hc_9 => ?_)
          · have hv := hv.1 (tv_eqn.mp hc_9)
            refine lv_iload_n hx hb dX7_trade_56 rfl (lv_at hl 1 rfl) ?_
            refine lv_iload_n hx hb dX7_trade_57 rfl (lv_at hl 3 rfl) ?_
            refine x_calliR (x_runS (As := [.int x, .int w0]) (rest := []) (n := 2) ⟨hx, hb, hml, hown, hts⟩ (k_X7_ownedAt l G  _ x w0) gX7_trade_X7_ownedAt rfl (by decide +kernel) ⟨Nat.le_trans (Nat.le_of_ble_eq_true rfl) hRf, Nat.le_trans (Nat.le_of_ble_eq_true rfl) hRl⟩ hKK hSS hS hA hP hD [] (by decide) rfl rfl hl.1 rfl (Nat.le_of_ble_eq_true rfl) dX7_trade_58) hP hD hS hA [] rfl (fun r_10 _ H locs hw hP hS => ?_)
            replace hw := hw.symm; subst hw
            refine lv_istore (lv' := [(5, .int (x * 9 + w0)), (0, .ref h0), (1, .int x), (2, .int y), (3, .int w0), (4, .int w1)]) hx hb dX7_trade_61 hl (by decide) rfl (fun ls hl => ?_)
            refine lv_iload_n hx hb dX7_trade_63 rfl (lv_at hl 3 rfl) ?_
            refine lv_iload_n hx hb dX7_trade_64 rfl (lv_at hl 4 rfl) ?_
            refine x_calliR (x_runS (As := [.int y, .int w0]) (rest := []) (n := 2) ⟨hx, hb, hml, hown, hts⟩ (k_X7_ownedAt l G  _ y w0) gX7_trade_X7_ownedAt rfl (by decide +kernel) ⟨Nat.le_trans (Nat.le_of_ble_eq_true rfl) hRf, Nat.le_trans (Nat.le_of_ble_eq_true rfl) hRl⟩ hKK hSS hS hA hP hD [] (by decide) rfl rfl hl.1 rfl (Nat.le_of_ble_eq_true rfl) dX7_trade_65) hP hD hS hA [] rfl (fun r_11 _ H locs hw hP hS => ?_)
            replace hw := hw.symm; subst hw
            refine lv_istore (lv' := [(6, .int (y * 9 + w0)), (5, .int (x * 9 + w0)), (0, .ref h0), (1, .int x), (2, .int y), (3, .int w0), (4, .int w1)]) hx hb dX7_trade_68 hl (by decide) rfl (fun ls hl => ?_)
            refine lv_aload_n hx hb dX7_trade_70 rfl (lv_at hl 2 rfl) ?_
            refine va_get (D := G.1) (ci := 7) (v := .ref n) (C := RX7) (T := TX7) (N := 11) hx hb hts hinX7 hown hKK.1 hP 0 rfl rfl 3 (by decide) kl29 (fun _ h9 => h9) rfl dX7_trade_71 ?_
            refine va_get (D := G.1) (ci := 1) (v := .ref n7) (C := RX1) (T := TX1) (N := 10) hx hb hts hinX1 hown hKK.1 hP 8 rfl rfl 6 (by decide) kl172 (fun _ h9 => h9) rfl dX7_trade_74 ?_
            refine lv_iload hx hb dX7_trade_77 (lv_at hl 1 rfl) ?_
            obtain ⟨hin, hv⟩ := hv
            refine va_iald hx hb hKK.1 hP 15 0 rfl rfl hin dX7_trade_79 ?_
            refine lv_iload hx hb dX7_trade_80 (lv_at hl 6 rfl) ?_
            refine lv_icmp_ge (tgt := 88) hx hb dX7_trade_82 (by decide) (fun hc_12 => ?_) (fun hc_12 => ?_)
            · have hv := hv.1 hc_12
              refine lv_aload_n hx hb dX7_trade_88 rfl (lv_at hl 2 rfl) ?_
              refine va_get (D := G.1) (ci := 7) (v := .ref n) (C := RX7) (T := TX7) (N := 11) hx hb hts hinX7 hown hKK.1 hP 0 rfl rfl 3 (by decide) kl29 (fun _ h9 => h9) rfl dX7_trade_89 ?_
              refine va_get (D := G.1) (ci := 1) (v := .ref n7) (C := RX1) (T := TX1) (N := 10) hx hb hts hinX1 hown hKK.1 hP 8 rfl rfl 6 (by decide) kl172 (fun _ h9 => h9) rfl dX7_trade_92 ?_
              refine lv_iload hx hb dX7_trade_95 (lv_at hl 0 rfl) ?_
              obtain ⟨hin, hv⟩ := hv
              refine va_iald hx hb hKK.1 hP 15 0 rfl rfl hin dX7_trade_97 ?_
              refine lv_iload hx hb dX7_trade_98 (lv_at hl 6 rfl) ?_
              refine lv_iadd hx hb dX7_trade_100 ?_
              refine lv_ldc (v := 99999) hx hb hown kl186 dX7_trade_101 ?_
              refine lv_icmp_le (tgt := 109) hx hb dX7_trade_103 (by decide) (fun hc_13 => ?_) (fun hc_13 => ?_)
              · have hv := hv.1 hc_13
                refine lv_aload_n hx hb dX7_trade_109 rfl (lv_at hl 2 rfl) ?_
                refine va_get (D := G.1) (ci := 7) (v := .ref n) (C := RX7) (T := TX7) (N := 11) hx hb hts hinX7 hown hKK.1 hP 0 rfl rfl 3 (by decide) kl29 (fun _ h9 => h9) rfl dX7_trade_110 ?_
                refine va_get (D := G.1) (ci := 1) (v := .ref n7) (C := RX1) (T := TX1) (N := 10) hx hb hts hinX1 hown hKK.1 hP 8 rfl rfl 6 (by decide) kl172 (fun _ h9 => h9) rfl dX7_trade_113 ?_
                refine lv_iload hx hb dX7_trade_116 (lv_at hl 1 rfl) ?_
                refine lv_dup2_11 hx hb dX7_trade_118 rfl rfl ?_
                obtain ⟨hin, hv⟩ := hv
                refine va_iald hx hb hKK.1 hP 15 0 rfl rfl hin dX7_trade_119 ?_
                refine lv_iload hx hb dX7_trade_120 (lv_at hl 6 rfl) ?_
                refine lv_isub hx hb dX7_trade_122 ?_
                obtain ⟨hin, hv⟩ := hv
                refine va_iast hx hb hKK.1 hP hD hS 15 0 rfl rfl hin dX7_trade_123 (fun H locs hP hD hS => ?_)
                have hP : va_P G.1 vwCl [(h0, .inr (7, [.ref e0, .ref t, .ref k, .ref n, .ref j, .ref i0, .int kp, .ref b0, .ref s0, .ref q, .ref g])), (t, .inr (6, [.int ns, .int np, .int fu, .int fd, .int fi, .ref t1, .ref t2, .ref t3, .ref t4, .ref t5, .ref t6])), aI G t1 9 sz_, aI G t2 9 pt, aI G t3 9 fh, aI G t4 8 kd, aI G t5 8 nd, aI G t6 8 fw, (n, .inr (1, [.ref n1, .ref n2, .ref n3, .ref n4, .ref n5, .ref n6, .ref n7, .int lo, .int mi, .int sd])), aI G n1 9 ht, aI G n2 8 wm, aI G n3 8 se, aI G n4 8 cd, aI G n5 8 sl, aI G n6 8 od, aI G n7 72 (upd ow ((x * 9 + w0).toNatClampNeg) ((ow (x * 9 + w0).toNatClampNeg) - w1))] H := hP
                have hD : va_D A [(h0, .inr (7, [.ref e0, .ref t, .ref k, .ref n, .ref j, .ref i0, .int kp, .ref b0, .ref s0, .ref q, .ref g])), (t, .inr (6, [.int ns, .int np, .int fu, .int fd, .int fi, .ref t1, .ref t2, .ref t3, .ref t4, .ref t5, .ref t6])), aI G t1 9 sz_, aI G t2 9 pt, aI G t3 9 fh, aI G t4 8 kd, aI G t5 8 nd, aI G t6 8 fw, (n, .inr (1, [.ref n1, .ref n2, .ref n3, .ref n4, .ref n5, .ref n6, .ref n7, .int lo, .int mi, .int sd])), aI G n1 9 ht, aI G n2 8 wm, aI G n3 8 se, aI G n4 8 cd, aI G n5 8 sl, aI G n6 8 od, aI G n7 72 (upd ow ((x * 9 + w0).toNatClampNeg) ((ow (x * 9 + w0).toNatClampNeg) - w1))] := hD
                refine lv_aload_n hx hb dX7_trade_124 rfl (lv_at hl 2 rfl) ?_
                refine va_get (D := G.1) (ci := 7) (v := .ref n) (C := RX7) (T := TX7) (N := 11) hx hb hts hinX7 hown hKK.1 hP 0 rfl rfl 3 (by decide) kl29 (fun _ h9 => h9) rfl dX7_trade_125 ?_
                refine va_get (D := G.1) (ci := 1) (v := .ref n7) (C := RX1) (T := TX1) (N := 10) hx hb hts hinX1 hown hKK.1 hP 8 rfl rfl 6 (by decide) kl172 (fun _ h9 => h9) rfl dX7_trade_128 ?_
                refine lv_iload hx hb dX7_trade_131 (lv_at hl 0 rfl) ?_
                refine lv_dup2_11 hx hb dX7_trade_133 rfl rfl ?_
                obtain ⟨hin, hv⟩ := hv
                refine va_iald hx hb hKK.1 hP 15 0 rfl rfl hin dX7_trade_134 ?_
                refine lv_iload hx hb dX7_trade_135 (lv_at hl 6 rfl) ?_
                refine lv_iadd hx hb dX7_trade_137 ?_
                obtain ⟨hin, hv⟩ := hv
                refine va_iast hx hb hKK.1 hP hD hS 15 0 rfl rfl hin dX7_trade_138 (fun H locs hP hD hS => ?_)
                have hP : va_P G.1 vwCl [(h0, .inr (7, [.ref e0, .ref t, .ref k, .ref n, .ref j, .ref i0, .int kp, .ref b0, .ref s0, .ref q, .ref g])), (t, .inr (6, [.int ns, .int np, .int fu, .int fd, .int fi, .ref t1, .ref t2, .ref t3, .ref t4, .ref t5, .ref t6])), aI G t1 9 sz_, aI G t2 9 pt, aI G t3 9 fh, aI G t4 8 kd, aI G t5 8 nd, aI G t6 8 fw, (n, .inr (1, [.ref n1, .ref n2, .ref n3, .ref n4, .ref n5, .ref n6, .ref n7, .int lo, .int mi, .int sd])), aI G n1 9 ht, aI G n2 8 wm, aI G n3 8 se, aI G n4 8 cd, aI G n5 8 sl, aI G n6 8 od, aI G n7 72 (upd (upd ow ((x * 9 + w0).toNatClampNeg) ((ow (x * 9 + w0).toNatClampNeg) - w1)) ((y * 9 + w0).toNatClampNeg) (((upd ow ((x * 9 + w0).toNatClampNeg) ((ow (x * 9 + w0).toNatClampNeg) - w1)) (y * 9 + w0).toNatClampNeg) + w1))] H := hP
                have hD : va_D A [(h0, .inr (7, [.ref e0, .ref t, .ref k, .ref n, .ref j, .ref i0, .int kp, .ref b0, .ref s0, .ref q, .ref g])), (t, .inr (6, [.int ns, .int np, .int fu, .int fd, .int fi, .ref t1, .ref t2, .ref t3, .ref t4, .ref t5, .ref t6])), aI G t1 9 sz_, aI G t2 9 pt, aI G t3 9 fh, aI G t4 8 kd, aI G t5 8 nd, aI G t6 8 fw, (n, .inr (1, [.ref n1, .ref n2, .ref n3, .ref n4, .ref n5, .ref n6, .ref n7, .int lo, .int mi, .int sd])), aI G n1 9 ht, aI G n2 8 wm, aI G n3 8 se, aI G n4 8 cd, aI G n5 8 sl, aI G n6 8 od, aI G n7 72 (upd (upd ow ((x * 9 + w0).toNatClampNeg) ((ow (x * 9 + w0).toNatClampNeg) - w1)) ((y * 9 + w0).toNatClampNeg) (((upd ow ((x * 9 + w0).toNatClampNeg) ((ow (x * 9 + w0).toNatClampNeg) - w1)) (y * 9 + w0).toNatClampNeg) + w1))] := hD
                refine lv_aload_n hx hb dX7_trade_139 rfl (lv_at hl 2 rfl) ?_
                refine va_get (D := G.1) (ci := 7) (v := .ref n) (C := RX7) (T := TX7) (N := 11) hx hb hts hinX7 hown hKK.1 hP 0 rfl rfl 3 (by decide) kl29 (fun _ h9 => h9) rfl dX7_trade_140 ?_
                refine va_get (D := G.1) (ci := 1) (v := .ref n7) (C := RX1) (T := TX1) (N := 10) hx hb hts hinX1 hown hKK.1 hP 8 rfl rfl 6 (by decide) kl172 (fun _ h9 => h9) rfl dX7_trade_143 ?_
                refine lv_iload hx hb dX7_trade_146 (lv_at hl 1 rfl) ?_
                obtain ⟨hin, hv⟩ := hv
                refine va_iald hx hb hKK.1 hP 15 0 rfl rfl hin dX7_trade_148 ?_
                exact x_iret (v := ((upd (upd ow ((x * 9 + w0).toNatClampNeg) ((ow (x * 9 + w0).toNatClampNeg) - w1)) ((y * 9 + w0).toNatClampNeg) (((upd ow ((x * 9 + w0).toNatClampNeg) ((ow (x * 9 + w0).toNatClampNeg) - w1)) (y * 9 + w0).toNatClampNeg) + w1)) (x * 9 + w0).toNatClampNeg)) (upd (upd ow ((x * 9 + w0).toNatClampNeg) ((ow (x * 9 + w0).toNatClampNeg) - w1)) ((y * 9 + w0).toNatClampNeg) (((upd ow ((x * 9 + w0).toNatClampNeg) ((ow (x * 9 + w0).toNatClampNeg) - w1)) (y * 9 + w0).toNatClampNeg) + w1)) hQ hx hb hr hlocks hS dX7_trade_149 hv hP hD
              · have hv := hv.2 hc_13
                refine lv_ldc (v := (-1000000004)) hx hb hown kl77 dX7_trade_106 ?_
                exact x_iret (v := (-1000000004)) ow hQ hx hb hr hlocks hS dX7_trade_108 hv hP hD
            · have hv := hv.2 hc_12
              refine lv_ldc (v := (-1000000003)) hx hb hown kl179 dX7_trade_85 ?_
              exact x_iret (v := (-1000000003)) ow hQ hx hb hr hlocks hS dX7_trade_87 hv hP hD
          · have hv := hv.2 (tv_eq.mp hc_9)
            refine lv_ldc (v := (-1000000002)) hx hb hown kl72 dX7_trade_53 ?_
            exact x_iret (v := (-1000000002)) ow hQ hx hb hr hlocks hS dX7_trade_55 hv hP hD
        · have hv := hv.2 (tv_eq.mp hc_7)
          refine lv_ldc (v := (-1000000001)) hx hb hown kl143 dX7_trade_38 ?_
          exact x_iret (v := (-1000000001)) ow hQ hx hb hr hlocks hS dX7_trade_40 hv hP hD
theorem v_X7_trade (l : Launch) (G : Gt) (h0 t t1 t2 t3 t4 t5 t6 n n1 n2 n3 n4 n5 n6 n7 : Nat) (sz : Nat) (e0 : Nat) (k : Nat) (j : Nat) (i0 : Nat) (b0 : Nat) (s0 : Nat) (q : Nat) (g : Nat) (kp : Int32) (ns : Int32) (np : Int32) (fu : Int32) (fd : Int32) (fi : Int32) (sz_ : Nat → Int32) (pt : Nat → Int32) (fh : Nat → Int32) (kd : Nat → Int32) (nd : Nat → Int32) (fw : Nat → Int32) (ht : Nat → Int32) (wm : Nat → Int32) (se : Nat → Int32) (cd : Nat → Int32) (sl : Nat → Int32) (od : Nat → Int32) (ow : Nat → Int32) (lo : Int32) (mi : Int32) (sd : Int32) (x : Int32) (y : Int32) (w0 : Int32) (w1 : Int32) (T : Nat → Nat → Int) (Ns : Nat) (Np : Nat) (v : Nat → Int) (M : Int) (hp : TOK T Ns Np ∧ CT T Ns Np ns np fu fd fi sz_ pt kd nd ∧ CN Ns Np v ht wm se cd sl od ow lo mi sd ∧ NOK T Ns Np (fun _ => 2 * M) M v ∧ M ≤ 900000) : (¬ (¬ x < 0 ∧ ¬ np ≤ x) → ((-1000000001) : Int32).toInt = (qTrade Ns Np v x.toInt y.toInt w0.toInt w1.toInt).1 ∧ CN Ns Np (qTrade Ns Np v x.toInt y.toInt w0.toInt w1.toInt).2 ht wm se cd sl od ow lo mi sd) ∧ (¬ x < 0 ∧ ¬ np ≤ x → (¬ (¬ y < 0 ∧ ¬ np ≤ y) → ((-1000000001) : Int32).toInt = (qTrade Ns Np v x.toInt y.toInt w0.toInt w1.toInt).1 ∧ CN Ns Np (qTrade Ns Np v x.toInt y.toInt w0.toInt w1.toInt).2 ht wm se cd sl od ow lo mi sd) ∧ (¬ y < 0 ∧ ¬ np ≤ y → (x = y → ((-1000000001) : Int32).toInt = (qTrade Ns Np v x.toInt y.toInt w0.toInt w1.toInt).1 ∧ CN Ns Np (qTrade Ns Np v x.toInt y.toInt w0.toInt w1.toInt).2 ht wm se cd sl od ow lo mi sd) ∧ (¬ (x = y) → (¬ w0 < 0 ∧ ¬ ns ≤ w0 → (¬ w1 < 1 ∧ ¬ 9999 < w1 → (vp_in (x * 9 + w0) 72) ∧ ((w1 ≤ (ow (x * 9 + w0).toNatClampNeg) → (vp_in (y * 9 + w0) 72) ∧ ((((ow (y * 9 + w0).toNatClampNeg) + w1) ≤ 99999 → (vp_in (x * 9 + w0) 72) ∧ ((vp_in (x * 9 + w0) 72) ∧ ((vp_in (y * 9 + w0) 72) ∧ ((vp_in (y * 9 + w0) 72) ∧ ((vp_in (x * 9 + w0) 72) ∧ (((upd (upd ow ((x * 9 + w0).toNatClampNeg) ((ow (x * 9 + w0).toNatClampNeg) - w1)) ((y * 9 + w0).toNatClampNeg) (((upd ow ((x * 9 + w0).toNatClampNeg) ((ow (x * 9 + w0).toNatClampNeg) - w1)) (y * 9 + w0).toNatClampNeg) + w1)) (x * 9 + w0).toNatClampNeg).toInt = (qTrade Ns Np v x.toInt y.toInt w0.toInt w1.toInt).1 ∧ CN Ns Np (qTrade Ns Np v x.toInt y.toInt w0.toInt w1.toInt).2 ht wm se cd sl od (upd (upd ow ((x * 9 + w0).toNatClampNeg) ((ow (x * 9 + w0).toNatClampNeg) - w1)) ((y * 9 + w0).toNatClampNeg) (((upd ow ((x * 9 + w0).toNatClampNeg) ((ow (x * 9 + w0).toNatClampNeg) - w1)) (y * 9 + w0).toNatClampNeg) + w1)) lo mi sd)))))) ∧ (¬ (((ow (y * 9 + w0).toNatClampNeg) + w1) ≤ 99999) → ((-1000000004) : Int32).toInt = (qTrade Ns Np v x.toInt y.toInt w0.toInt w1.toInt).1 ∧ CN Ns Np (qTrade Ns Np v x.toInt y.toInt w0.toInt w1.toInt).2 ht wm se cd sl od ow lo mi sd))) ∧ (¬ (w1 ≤ (ow (x * 9 + w0).toNatClampNeg)) → ((-1000000003) : Int32).toInt = (qTrade Ns Np v x.toInt y.toInt w0.toInt w1.toInt).1 ∧ CN Ns Np (qTrade Ns Np v x.toInt y.toInt w0.toInt w1.toInt).2 ht wm se cd sl od ow lo mi sd))) ∧ (¬ (¬ w1 < 1 ∧ ¬ 9999 < w1) → ((-1000000002) : Int32).toInt = (qTrade Ns Np v x.toInt y.toInt w0.toInt w1.toInt).1 ∧ CN Ns Np (qTrade Ns Np v x.toInt y.toInt w0.toInt w1.toInt).2 ht wm se cd sl od ow lo mi sd)) ∧ (¬ (¬ w0 < 0 ∧ ¬ ns ≤ w0) → ((-1000000001) : Int32).toInt = (qTrade Ns Np v x.toInt y.toInt w0.toInt w1.toInt).1 ∧ CN Ns Np (qTrade Ns Np v x.toInt y.toInt w0.toInt w1.toInt).2 ht wm se cd sl od ow lo mi sd)))) := by
  obtain ⟨hT, hC, hN, hO, hM⟩ := hp
  have t1 := hT.1
  have t2 := hT.2.1
  have hns : ns = nI Ns := hC.1
  have hnp : np = nI Np := hC.2.1
  have hp_ := hs_iff (x := x) hnp (by omega)
  have hq_ := hs_iff (x := y) hnp (by omega)
  have hs_ := hs_iff (x := w0) hns (by omega)
  have hz_ : (¬ w1 < 1 ∧ ¬ 9999 < w1) ↔ (1 ≤ w1.toInt ∧ w1.toInt ≤ 9999) := wi_iff rfl rfl
  have hxy : x = y ↔ x.toInt = y.toInt := i_eq rfl rfl
  have e9 : ∀ i b : Nat, nI i * 9 + nI b = nI (9 * i + b) := fun i b => by rw [show (9 : Int32) = nI 9 from rfl, pk_mul, nI_add, Nat.mul_comm]
  simp only [hp_, hq_, hs_, hz_, hxy]
  refine ⟨fun h1 => ?_, fun h1 => ⟨fun h2 => ?_, fun h2 => ⟨fun h3 => ?_, fun h3 => ⟨fun h4 => ⟨fun h5 => ?_, fun h5 => ?_⟩, fun h4 => ?_⟩⟩⟩⟩
  · rw [qTrade, if_pos (Or.inl h1)]; exact ⟨rfl, hN⟩
  · rw [qTrade, if_pos (Or.inr (Or.inl h2))]; exact ⟨rfl, hN⟩
  · rw [qTrade, if_pos (Or.inr (Or.inr (Or.inl h3)))]; exact ⟨rfl, hN⟩
  · have eq : qTrade Ns Np v x.toInt y.toInt w0.toInt w1.toInt = if v (60 + (9 * x.toInt.toNat + w0.toInt.toNat)) < w1.toInt then (-1000000003, v) else if 99999 < v (60 + (9 * y.toInt.toNat + w0.toInt.toNat)) + w1.toInt then (-1000000004, v) else (v (60 + (9 * x.toInt.toNat + w0.toInt.toNat)) - w1.toInt, uz (uz v (60 + (9 * x.toInt.toNat + w0.toInt.toNat)) (v (60 + (9 * x.toInt.toNat + w0.toInt.toNat)) - w1.toInt)) (60 + (9 * y.toInt.toNat + w0.toInt.toNat)) (v (60 + (9 * y.toInt.toNat + w0.toInt.toNat)) + w1.toInt)) := by
      rw [qTrade, if_neg (fun q => q.elim (fun q => q h1) (fun q => q.elim (fun q => q h2) (fun q => q.elim h3 (fun q => q h4)))), if_neg (fun q => q h5)]
    rw [eq]
    obtain ⟨i, hi, rfl, hxi, hxt⟩ := in_nat h1 (by omega)
    obtain ⟨j, hj, rfl, hyj, hyt⟩ := in_nat h2 (by omega)
    obtain ⟨b, hb, rfl, hzb, hzt⟩ := in_nat h4 (by omega)
    rw [hxt, hyt, hzt]
    have hij : i ≠ j := by omega
    have c : (nI (9 * i + b)).toNatClampNeg = 9 * i + b := nI_clamp (by omega)
    have c2 : (nI (9 * j + b)).toNatClampNeg = 9 * j + b := nI_clamp (by omega)
    have bo := hO.2.2.2.1 i b hi hb
    have bo2 := hO.2.2.2.1 j b hj hb
    have vo : vp_in (nI (9 * i + b)) 72 := vp_in_nI (by omega) (by omega)
    have vo2 : vp_in (nI (9 * j + b)) 72 := vp_in_nI (by omega) (by omega)
    have eo := hN.o t2 t1 hi hb
    have eo2 := hN.o t2 t1 hj hb
    have ew : w1.toInt = w1.toInt := rfl
    have ea := i_add eo2 ew (by omega) (by omega)
    have es := i_sub eo ew (by omega) (by omega)
    have hle : w1 ≤ ow (9 * i + b) ↔ w1.toInt ≤ v (60 + (9 * i + b)) := i_le ew eo
    have hle2 : ow (9 * j + b) + w1 ≤ 99999 ↔ v (60 + (9 * j + b)) + w1.toInt ≤ 99999 := i_le ea (show (99999 : Int32).toInt = 99999 from rfl)
    simp only [e9, c, c2, hle, hle2]
    refine ⟨vo, fun h6 => ⟨vo2, fun h7 => ⟨vo, vo, vo2, vo2, vo, ?_⟩, fun h7 => ?_⟩, fun h6 => ?_⟩
    · rw [if_neg (by omega), if_neg (by omega), upd_ne (i := 9 * j + b) (j := 9 * i + b) (by omega), upd_at, upd_ne (i := 9 * i + b) (j := 9 * j + b) (by omega)]
      exact ⟨es, CN_ow (CN_ow hN (by omega) es) (by omega) ea⟩
    · rw [if_neg (by omega), if_pos (by omega)]; exact ⟨rfl, hN⟩
    · rw [if_pos (by omega)]; exact ⟨rfl, hN⟩
  · rw [qTrade, if_neg (fun q => q.elim (fun q => q h1) (fun q => q.elim (fun q => q h2) (fun q => q.elim h3 (fun q => q h4)))), if_pos h5]; exact ⟨rfl, hN⟩
  · rw [qTrade, if_pos (Or.inr (Or.inr (Or.inr h4)))]; exact ⟨rfl, hN⟩
theorem k_X7_trade (l : Launch) (G : Gt) (h0 t t1 t2 t3 t4 t5 t6 n n1 n2 n3 n4 n5 n6 n7 : Nat) (sz : Nat) (e0 : Nat) (k : Nat) (j : Nat) (i0 : Nat) (b0 : Nat) (s0 : Nat) (q : Nat) (g : Nat) (kp : Int32) (ns : Int32) (np : Int32) (fu : Int32) (fd : Int32) (fi : Int32) (sz_ : Nat → Int32) (pt : Nat → Int32) (fh : Nat → Int32) (kd : Nat → Int32) (nd : Nat → Int32) (fw : Nat → Int32) (ht : Nat → Int32) (wm : Nat → Int32) (se : Nat → Int32) (cd : Nat → Int32) (sl : Nat → Int32) (od : Nat → Int32) (ow : Nat → Int32) (lo : Int32) (mi : Int32) (sd : Int32) (x : Int32) (y : Int32) (w0 : Int32) (w1 : Int32) (T : Nat → Nat → Int) (Ns : Nat) (Np : Nat) (v : Nat → Int) (M : Int) (hp : TOK T Ns Np ∧ CT T Ns Np ns np fu fd fi sz_ pt kd nd ∧ CN Ns Np v ht wm se cd sl od ow lo mi sd ∧ NOK T Ns Np (fun _ => 2 * M) M v ∧ M ≤ 900000) : MetI l yX7_trade wsX7_trade 1 22 G [.ref h0, .int x, .int y, .int w0, .int w1] [(h0, .inr (7, [.ref e0, .ref t, .ref k, .ref n, .ref j, .ref i0, .int kp, .ref b0, .ref s0, .ref q, .ref g])), (t, .inr (6, [.int ns, .int np, .int fu, .int fd, .int fi, .ref t1, .ref t2, .ref t3, .ref t4, .ref t5, .ref t6])), aI G t1 9 sz_, aI G t2 9 pt, aI G t3 9 fh, aI G t4 8 kd, aI G t5 8 nd, aI G t6 8 fw, (n, .inr (1, [.ref n1, .ref n2, .ref n3, .ref n4, .ref n5, .ref n6, .ref n7, .int lo, .int mi, .int sd])), aI G n1 9 ht, aI G n2 8 wm, aI G n3 8 se, aI G n4 8 cd, aI G n5 8 sl, aI G n6 8 od, aI G n7 72 ow] sz (fun (r : Int32) (u : (Nat → Int32)) => r.toInt = (qTrade Ns Np v x.toInt y.toInt w0.toInt w1.toInt).1 ∧ CN Ns Np (qTrade Ns Np v x.toInt y.toInt w0.toInt w1.toInt).2 ht wm se cd sl od u lo mi sd) (fun (u : (Nat → Int32)) => [(h0, .inr (7, [.ref e0, .ref t, .ref k, .ref n, .ref j, .ref i0, .int kp, .ref b0, .ref s0, .ref q, .ref g])), (t, .inr (6, [.int ns, .int np, .int fu, .int fd, .int fi, .ref t1, .ref t2, .ref t3, .ref t4, .ref t5, .ref t6])), aI G t1 9 sz_, aI G t2 9 pt, aI G t3 9 fh, aI G t4 8 kd, aI G t5 8 nd, aI G t6 8 fw, (n, .inr (1, [.ref n1, .ref n2, .ref n3, .ref n4, .ref n5, .ref n6, .ref n7, .int lo, .int mi, .int sd])), aI G n1 9 ht, aI G n2 8 wm, aI G n3 8 se, aI G n4 8 cd, aI G n5 8 sl, aI G n6 8 od, aI G n7 72 u]) :=
  c_X7_trade l G h0 t t1 t2 t3 t4 t5 t6 n n1 n2 n3 n4 n5 n6 n7 sz e0 k j i0 b0 s0 q g kp ns np fu fd fi sz_ pt fh kd nd fw ht wm se cd sl od ow lo mi sd x y w0 w1 T Ns Np v M (v_X7_trade l G h0 t t1 t2 t3 t4 t5 t6 n n1 n2 n3 n4 n5 n6 n7 sz e0 k j i0 b0 s0 q g kp ns np fu fd fi sz_ pt fh kd nd fw ht wm se cd sl od ow lo mi sd x y w0 w1 T Ns Np v M hp)

set_option maxHeartbeats 4000000 in
set_option maxRecDepth 100000 in
theorem c_X7_forgive (l : Launch) (G : Gt) (h0 t t1 t2 t3 t4 t5 t6 n n1 n2 n3 n4 n5 n6 n7 : Nat) (sz : Nat) (e0 : Nat) (k : Nat) (j : Nat) (i0 : Nat) (b0 : Nat) (s0 : Nat) (q : Nat) (g : Nat) (kp : Int32) (ns : Int32) (np : Int32) (fu : Int32) (fd : Int32) (fi : Int32) (sz_ : Nat → Int32) (pt : Nat → Int32) (fh : Nat → Int32) (kd : Nat → Int32) (nd : Nat → Int32) (fw : Nat → Int32) (ht : Nat → Int32) (wm : Nat → Int32) (se : Nat → Int32) (cd : Nat → Int32) (sl : Nat → Int32) (od : Nat → Int32) (ow : Nat → Int32) (lo : Int32) (mi : Int32) (sd : Int32) (x : Int32) (T : Nat → Nat → Int) (Ns : Nat) (Np : Nat) (v : Nat → Int) (M : Int) (hv : (¬ x < 0 ∧ ¬ np ≤ x → (vp_in x 8) ∧ ((vp_in x 8) ∧ ((vp_in x 8) ∧ ((od x.toNatClampNeg).toInt = (qForgive Np v x.toInt).1 ∧ CN Ns Np (qForgive Np v x.toInt).2 ht wm se cd (upd sl x.toNatClampNeg 0) (upd od x.toNatClampNeg 0) ow lo mi sd)))) ∧ (¬ (¬ x < 0 ∧ ¬ np ≤ x) → ((-1000000001) : Int32).toInt = (qForgive Np v x.toInt).1 ∧ CN Ns Np (qForgive Np v x.toInt).2 ht wm se cd sl od ow lo mi sd)) : MetI l yX7_forgive wsX7_forgive 1 21 G [.ref h0, .int x] [(h0, .inr (7, [.ref e0, .ref t, .ref k, .ref n, .ref j, .ref i0, .int kp, .ref b0, .ref s0, .ref q, .ref g])), (t, .inr (6, [.int ns, .int np, .int fu, .int fd, .int fi, .ref t1, .ref t2, .ref t3, .ref t4, .ref t5, .ref t6])), aI G t1 9 sz_, aI G t2 9 pt, aI G t3 9 fh, aI G t4 8 kd, aI G t5 8 nd, aI G t6 8 fw, (n, .inr (1, [.ref n1, .ref n2, .ref n3, .ref n4, .ref n5, .ref n6, .ref n7, .int lo, .int mi, .int sd])), aI G n1 9 ht, aI G n2 8 wm, aI G n3 8 se, aI G n4 8 cd, aI G n5 8 sl, aI G n6 8 od, aI G n7 72 ow] sz (fun (r : Int32) (u : (Nat → Int32) × (Nat → Int32)) => r.toInt = (qForgive Np v x.toInt).1 ∧ CN Ns Np (qForgive Np v x.toInt).2 ht wm se cd u.1 u.2 ow lo mi sd) (fun (u : (Nat → Int32) × (Nat → Int32)) => [(h0, .inr (7, [.ref e0, .ref t, .ref k, .ref n, .ref j, .ref i0, .int kp, .ref b0, .ref s0, .ref q, .ref g])), (t, .inr (6, [.int ns, .int np, .int fu, .int fd, .int fi, .ref t1, .ref t2, .ref t3, .ref t4, .ref t5, .ref t6])), aI G t1 9 sz_, aI G t2 9 pt, aI G t3 9 fh, aI G t4 8 kd, aI G t5 8 nd, aI G t6 8 fw, (n, .inr (1, [.ref n1, .ref n2, .ref n3, .ref n4, .ref n5, .ref n6, .ref n7, .int lo, .int mi, .int sd])), aI G n1 9 ht, aI G n2 8 wm, aI G n3 8 se, aI G n4 8 cd, aI G n5 8 u.1, aI G n6 8 u.2, aI G n7 72 ow]) := by
  refine x_startI (cc := cX7_forgive) (maxL := 3) (ret := (some .int)) (by decide) rfl (Nat.le_of_ble_eq_true rfl) ?_
  intro p e s m args below meth c A R Q ls hRf hRl hQ C hP hD hS hA hSS hl
  obtain ⟨hx, hb, hr, hml, hown, hts, hlocks, hKK⟩ := C
  have hown : s.vm.findClass RX7 = some m.cls := hown
  have hl : lv_has ls 3 [(0, .ref h0), (1, .int x)] := hl
  have hinX1 : ∀ w ∈ u_ws RX1 TX1 10, w ∈ wsX7_forgive := by decide +kernel
  have hinX7 : ∀ w ∈ u_ws RX7 TX7 11, w ∈ wsX7_forgive := by decide +kernel
  have kl143 := hts (.constant RX7 143 (-1000000001)) (by decide +kernel)
  have kl166 := hts (.fieldLink RX7 166 "WarmStones$Night" "stolen" "[I") (by decide +kernel)
  have kl169 := hts (.fieldLink RX7 169 "WarmStones$Night" "owed" "[I") (by decide +kernel)
  have kl19 := hts (.fieldLink RX7 19 "WarmStones" "town" "LWarmStones$Town;") (by decide +kernel)
  have kl29 := hts (.fieldLink RX7 29 "WarmStones" "night" "LWarmStones$Night;") (by decide +kernel)
  refine lv_aload_n hx hb dX7_forgive_0 rfl (lv_at hl 0 rfl) ?_
  refine va_get (D := G.1) (ci := 7) (v := .ref t) (C := RX7) (T := TX7) (N := 11) hx hb hts hinX7 hown hKK.1 hP 0 rfl rfl 1 (by decide) kl19 (fun _ h9 => h9) rfl dX7_forgive_1 ?_
  refine lv_iload_n hx hb dX7_forgive_4 rfl (lv_at hl 1 rfl) ?_
  refine x_calliR (x_runV (As := [.int x]) (rest := []) (n := 1) (C := RX6) (ci := 6) ⟨hx, hb, hml, hown, hts⟩ (k_X6_hasPerson l G t t1 t2 t3 t4 t5 t6 _ ns np fu fd fi sz_ pt fh kd nd fw x) gX7_forgive_X6_hasPerson rfl (by decide +kernel) ⟨Nat.le_trans (Nat.le_of_ble_eq_true rfl) hRf, Nat.le_trans (Nat.le_of_ble_eq_true rfl) hRl⟩ hKK hSS hS hA hP hD [1, 2, 3, 4, 5, 6, 7] (by decide) rfl rfl rfl 1 rfl rfl hl.1 rfl (Nat.le_of_ble_eq_true rfl) dX7_forgive_5) hP hD hS hA [1, 2, 3, 4, 5, 6, 7] rfl (fun r_1 _ H locs hw hP hS => ?_)
  replace hw := hw.symm; subst hw
  refine lv_if_ne (tgt := 14) hx hb dX7_forgive_8 (by decide) (fun hc_2 => ?_) (fun hc_2 => ?_)
  · have hv := hv.1 (tv_eqn.mp hc_2)
    refine lv_aload_n hx hb dX7_forgive_14 rfl (lv_at hl 0 rfl) ?_
    refine va_get (D := G.1) (ci := 7) (v := .ref n) (C := RX7) (T := TX7) (N := 11) hx hb hts hinX7 hown hKK.1 hP 0 rfl rfl 3 (by decide) kl29 (fun _ h9 => h9) rfl dX7_forgive_15 ?_
    refine va_get (D := G.1) (ci := 1) (v := .ref n6) (C := RX1) (T := TX1) (N := 10) hx hb hts hinX1 hown hKK.1 hP 8 rfl rfl 5 (by decide) kl169 (fun _ h9 => h9) rfl dX7_forgive_18 ?_
    refine lv_iload_n hx hb dX7_forgive_21 rfl (lv_at hl 1 rfl) ?_
    obtain ⟨hin, hv⟩ := hv
    refine va_iald hx hb hKK.1 hP 14 0 rfl rfl hin dX7_forgive_22 ?_
    refine lv_istore_n (lv' := [(2, .int (od x.toNatClampNeg)), (0, .ref h0), (1, .int x)]) hx hb dX7_forgive_23 rfl hl (by decide) rfl (fun ls hl => ?_)
    refine lv_aload_n hx hb dX7_forgive_24 rfl (lv_at hl 1 rfl) ?_
    refine va_get (D := G.1) (ci := 7) (v := .ref n) (C := RX7) (T := TX7) (N := 11) hx hb hts hinX7 hown hKK.1 hP 0 rfl rfl 3 (by decide) kl29 (fun _ h9 => h9) rfl dX7_forgive_25 ?_
    refine va_get (D := G.1) (ci := 1) (v := .ref n6) (C := RX1) (T := TX1) (N := 10) hx hb hts hinX1 hown hKK.1 hP 8 rfl rfl 5 (by decide) kl169 (fun _ h9 => h9) rfl dX7_forgive_28 ?_
    refine lv_iload_n hx hb dX7_forgive_31 rfl (lv_at hl 2 rfl) ?_
    refine lv_iconst (v := 0) hx hb dX7_forgive_32 (by decide) ?_
    obtain ⟨hin, hv⟩ := hv
    refine va_iast hx hb hKK.1 hP hD hS 14 0 rfl rfl hin dX7_forgive_33 (fun H locs hP hD hS => ?_)
    have hP : va_P G.1 vwCl [(h0, .inr (7, [.ref e0, .ref t, .ref k, .ref n, .ref j, .ref i0, .int kp, .ref b0, .ref s0, .ref q, .ref g])), (t, .inr (6, [.int ns, .int np, .int fu, .int fd, .int fi, .ref t1, .ref t2, .ref t3, .ref t4, .ref t5, .ref t6])), aI G t1 9 sz_, aI G t2 9 pt, aI G t3 9 fh, aI G t4 8 kd, aI G t5 8 nd, aI G t6 8 fw, (n, .inr (1, [.ref n1, .ref n2, .ref n3, .ref n4, .ref n5, .ref n6, .ref n7, .int lo, .int mi, .int sd])), aI G n1 9 ht, aI G n2 8 wm, aI G n3 8 se, aI G n4 8 cd, aI G n5 8 sl, aI G n6 8 (upd od x.toNatClampNeg 0), aI G n7 72 ow] H := hP
    have hD : va_D A [(h0, .inr (7, [.ref e0, .ref t, .ref k, .ref n, .ref j, .ref i0, .int kp, .ref b0, .ref s0, .ref q, .ref g])), (t, .inr (6, [.int ns, .int np, .int fu, .int fd, .int fi, .ref t1, .ref t2, .ref t3, .ref t4, .ref t5, .ref t6])), aI G t1 9 sz_, aI G t2 9 pt, aI G t3 9 fh, aI G t4 8 kd, aI G t5 8 nd, aI G t6 8 fw, (n, .inr (1, [.ref n1, .ref n2, .ref n3, .ref n4, .ref n5, .ref n6, .ref n7, .int lo, .int mi, .int sd])), aI G n1 9 ht, aI G n2 8 wm, aI G n3 8 se, aI G n4 8 cd, aI G n5 8 sl, aI G n6 8 (upd od x.toNatClampNeg 0), aI G n7 72 ow] := hD
    refine lv_aload_n hx hb dX7_forgive_34 rfl (lv_at hl 1 rfl) ?_
    refine va_get (D := G.1) (ci := 7) (v := .ref n) (C := RX7) (T := TX7) (N := 11) hx hb hts hinX7 hown hKK.1 hP 0 rfl rfl 3 (by decide) kl29 (fun _ h9 => h9) rfl dX7_forgive_35 ?_
    refine va_get (D := G.1) (ci := 1) (v := .ref n5) (C := RX1) (T := TX1) (N := 10) hx hb hts hinX1 hown hKK.1 hP 8 rfl rfl 4 (by decide) kl166 (fun _ h9 => h9) rfl dX7_forgive_38 ?_
    refine lv_iload_n hx hb dX7_forgive_41 rfl (lv_at hl 2 rfl) ?_
    refine lv_iconst (v := 0) hx hb dX7_forgive_42 (by decide) ?_
    obtain ⟨hin, hv⟩ := hv
    refine va_iast hx hb hKK.1 hP hD hS 13 0 rfl rfl hin dX7_forgive_43 (fun H locs hP hD hS => ?_)
    have hP : va_P G.1 vwCl [(h0, .inr (7, [.ref e0, .ref t, .ref k, .ref n, .ref j, .ref i0, .int kp, .ref b0, .ref s0, .ref q, .ref g])), (t, .inr (6, [.int ns, .int np, .int fu, .int fd, .int fi, .ref t1, .ref t2, .ref t3, .ref t4, .ref t5, .ref t6])), aI G t1 9 sz_, aI G t2 9 pt, aI G t3 9 fh, aI G t4 8 kd, aI G t5 8 nd, aI G t6 8 fw, (n, .inr (1, [.ref n1, .ref n2, .ref n3, .ref n4, .ref n5, .ref n6, .ref n7, .int lo, .int mi, .int sd])), aI G n1 9 ht, aI G n2 8 wm, aI G n3 8 se, aI G n4 8 cd, aI G n5 8 (upd sl x.toNatClampNeg 0), aI G n6 8 (upd od x.toNatClampNeg 0), aI G n7 72 ow] H := hP
    have hD : va_D A [(h0, .inr (7, [.ref e0, .ref t, .ref k, .ref n, .ref j, .ref i0, .int kp, .ref b0, .ref s0, .ref q, .ref g])), (t, .inr (6, [.int ns, .int np, .int fu, .int fd, .int fi, .ref t1, .ref t2, .ref t3, .ref t4, .ref t5, .ref t6])), aI G t1 9 sz_, aI G t2 9 pt, aI G t3 9 fh, aI G t4 8 kd, aI G t5 8 nd, aI G t6 8 fw, (n, .inr (1, [.ref n1, .ref n2, .ref n3, .ref n4, .ref n5, .ref n6, .ref n7, .int lo, .int mi, .int sd])), aI G n1 9 ht, aI G n2 8 wm, aI G n3 8 se, aI G n4 8 cd, aI G n5 8 (upd sl x.toNatClampNeg 0), aI G n6 8 (upd od x.toNatClampNeg 0), aI G n7 72 ow] := hD
    refine lv_iload_n hx hb dX7_forgive_44 rfl (lv_at hl 0 rfl) ?_
    exact x_iret (v := (od x.toNatClampNeg)) ((upd sl x.toNatClampNeg 0), (upd od x.toNatClampNeg 0)) hQ hx hb hr hlocks hS dX7_forgive_45 hv hP hD
  · have hv := hv.2 (tv_eq.mp hc_2)
    refine lv_ldc (v := (-1000000001)) hx hb hown kl143 dX7_forgive_11 ?_
    exact x_iret (v := (-1000000001)) (sl, od) hQ hx hb hr hlocks hS dX7_forgive_13 hv hP hD
theorem v_X7_forgive (l : Launch) (G : Gt) (h0 t t1 t2 t3 t4 t5 t6 n n1 n2 n3 n4 n5 n6 n7 : Nat) (sz : Nat) (e0 : Nat) (k : Nat) (j : Nat) (i0 : Nat) (b0 : Nat) (s0 : Nat) (q : Nat) (g : Nat) (kp : Int32) (ns : Int32) (np : Int32) (fu : Int32) (fd : Int32) (fi : Int32) (sz_ : Nat → Int32) (pt : Nat → Int32) (fh : Nat → Int32) (kd : Nat → Int32) (nd : Nat → Int32) (fw : Nat → Int32) (ht : Nat → Int32) (wm : Nat → Int32) (se : Nat → Int32) (cd : Nat → Int32) (sl : Nat → Int32) (od : Nat → Int32) (ow : Nat → Int32) (lo : Int32) (mi : Int32) (sd : Int32) (x : Int32) (T : Nat → Nat → Int) (Ns : Nat) (Np : Nat) (v : Nat → Int) (M : Int) (hp : TOK T Ns Np ∧ CT T Ns Np ns np fu fd fi sz_ pt kd nd ∧ CN Ns Np v ht wm se cd sl od ow lo mi sd ∧ NOK T Ns Np (fun _ => 2 * M) M v ∧ M ≤ 900000) : (¬ x < 0 ∧ ¬ np ≤ x → (vp_in x 8) ∧ ((vp_in x 8) ∧ ((vp_in x 8) ∧ ((od x.toNatClampNeg).toInt = (qForgive Np v x.toInt).1 ∧ CN Ns Np (qForgive Np v x.toInt).2 ht wm se cd (upd sl x.toNatClampNeg 0) (upd od x.toNatClampNeg 0) ow lo mi sd)))) ∧ (¬ (¬ x < 0 ∧ ¬ np ≤ x) → ((-1000000001) : Int32).toInt = (qForgive Np v x.toInt).1 ∧ CN Ns Np (qForgive Np v x.toInt).2 ht wm se cd sl od ow lo mi sd) := by
  obtain ⟨hT, hC, hN, hO, hM⟩ := hp
  have t1 := hT.1
  have t2 := hT.2.1
  have hns : ns = nI Ns := hC.1
  have hnp : np = nI Np := hC.2.1
  have hp_ := hs_iff (x := x) hnp (by omega)
  simp only [hp_]
  refine ⟨fun h1 => ?_, fun h1 => by rw [qForgive, if_neg h1]; exact ⟨rfl, hN⟩⟩
  rw [qForgive, if_pos h1]
  obtain ⟨i, hi, rfl, hxi, hxt⟩ := in_nat h1 (by omega)
  rw [hxt]
  have c : (nI i).toNatClampNeg = i := nI_clamp (by omega)
  have vo : vp_in (nI i) 8 := vp_in_nI (by omega) (by omega)
  simp only [c]
  exact ⟨vo, vo, vo, hN.d t2 hi, CN_sl (CN_od hN (by omega) rfl) (by omega) rfl⟩
theorem k_X7_forgive (l : Launch) (G : Gt) (h0 t t1 t2 t3 t4 t5 t6 n n1 n2 n3 n4 n5 n6 n7 : Nat) (sz : Nat) (e0 : Nat) (k : Nat) (j : Nat) (i0 : Nat) (b0 : Nat) (s0 : Nat) (q : Nat) (g : Nat) (kp : Int32) (ns : Int32) (np : Int32) (fu : Int32) (fd : Int32) (fi : Int32) (sz_ : Nat → Int32) (pt : Nat → Int32) (fh : Nat → Int32) (kd : Nat → Int32) (nd : Nat → Int32) (fw : Nat → Int32) (ht : Nat → Int32) (wm : Nat → Int32) (se : Nat → Int32) (cd : Nat → Int32) (sl : Nat → Int32) (od : Nat → Int32) (ow : Nat → Int32) (lo : Int32) (mi : Int32) (sd : Int32) (x : Int32) (T : Nat → Nat → Int) (Ns : Nat) (Np : Nat) (v : Nat → Int) (M : Int) (hp : TOK T Ns Np ∧ CT T Ns Np ns np fu fd fi sz_ pt kd nd ∧ CN Ns Np v ht wm se cd sl od ow lo mi sd ∧ NOK T Ns Np (fun _ => 2 * M) M v ∧ M ≤ 900000) : MetI l yX7_forgive wsX7_forgive 1 21 G [.ref h0, .int x] [(h0, .inr (7, [.ref e0, .ref t, .ref k, .ref n, .ref j, .ref i0, .int kp, .ref b0, .ref s0, .ref q, .ref g])), (t, .inr (6, [.int ns, .int np, .int fu, .int fd, .int fi, .ref t1, .ref t2, .ref t3, .ref t4, .ref t5, .ref t6])), aI G t1 9 sz_, aI G t2 9 pt, aI G t3 9 fh, aI G t4 8 kd, aI G t5 8 nd, aI G t6 8 fw, (n, .inr (1, [.ref n1, .ref n2, .ref n3, .ref n4, .ref n5, .ref n6, .ref n7, .int lo, .int mi, .int sd])), aI G n1 9 ht, aI G n2 8 wm, aI G n3 8 se, aI G n4 8 cd, aI G n5 8 sl, aI G n6 8 od, aI G n7 72 ow] sz (fun (r : Int32) (u : (Nat → Int32) × (Nat → Int32)) => r.toInt = (qForgive Np v x.toInt).1 ∧ CN Ns Np (qForgive Np v x.toInt).2 ht wm se cd u.1 u.2 ow lo mi sd) (fun (u : (Nat → Int32) × (Nat → Int32)) => [(h0, .inr (7, [.ref e0, .ref t, .ref k, .ref n, .ref j, .ref i0, .int kp, .ref b0, .ref s0, .ref q, .ref g])), (t, .inr (6, [.int ns, .int np, .int fu, .int fd, .int fi, .ref t1, .ref t2, .ref t3, .ref t4, .ref t5, .ref t6])), aI G t1 9 sz_, aI G t2 9 pt, aI G t3 9 fh, aI G t4 8 kd, aI G t5 8 nd, aI G t6 8 fw, (n, .inr (1, [.ref n1, .ref n2, .ref n3, .ref n4, .ref n5, .ref n6, .ref n7, .int lo, .int mi, .int sd])), aI G n1 9 ht, aI G n2 8 wm, aI G n3 8 se, aI G n4 8 cd, aI G n5 8 u.1, aI G n6 8 u.2, aI G n7 72 ow]) :=
  c_X7_forgive l G h0 t t1 t2 t3 t4 t5 t6 n n1 n2 n3 n4 n5 n6 n7 sz e0 k j i0 b0 s0 q g kp ns np fu fd fi sz_ pt fh kd nd fw ht wm se cd sl od ow lo mi sd x T Ns Np v M (v_X7_forgive l G h0 t t1 t2 t3 t4 t5 t6 n n1 n2 n3 n4 n5 n6 n7 sz e0 k j i0 b0 s0 q g kp ns np fu fd fi sz_ pt fh kd nd fw ht wm se cd sl od ow lo mi sd x T Ns Np v M hp)

set_option maxHeartbeats 4000000 in
set_option maxRecDepth 100000 in
theorem c_X7_seating (l : Launch) (G : Gt) (h0 t t1 t2 t3 t4 t5 t6 n n1 n2 n3 n4 n5 n6 n7 q q1 q2 q3 q4 s1 : Nat) (sz : Nat) (e0 : Nat) (k : Nat) (j : Nat) (i0 : Nat) (b0 : Nat) (s0 : Nat) (g : Nat) (kp : Int32) (ns : Int32) (np : Int32) (fu : Int32) (fd : Int32) (fi : Int32) (sz_ : Nat → Int32) (pt : Nat → Int32) (fh : Nat → Int32) (kd : Nat → Int32) (nd : Nat → Int32) (fw : Nat → Int32) (ht : Nat → Int32) (wm : Nat → Int32) (se : Nat → Int32) (cd : Nat → Int32) (sl : Nat → Int32) (od : Nat → Int32) (ow : Nat → Int32) (lo : Int32) (mi : Int32) (sd : Int32) (bc : Int32) (bl : Int32) (co : Nat → Int32) (wo : Nat → Int32) (ch : Nat → Int32) (be : Nat → Int32) (sw1 : Int32) (sh1 : Int32) (x : Int32) (y : Int32) (T : Nat → Nat → Int) (Ns : Nat) (Np : Nat) (v : Nat → Int) (M : Int) (hv : (¬ (¬ x < 1 ∧ ¬ 60 < x) → ((-1000000002) : Int32).toInt = aSeating T Ns Np v x.toInt y.toInt) ∧ (¬ x < 1 ∧ ¬ 60 < x → (y < 0 → ((-1000000002) : Int32).toInt = aSeating T Ns Np v x.toInt y.toInt) ∧ (¬ (y < 0) → (y ≤ 1 → (¬ np < 1 ∧ ¬ 4 < np → ∃ (gT_7 : Nat → Nat → Int) (gNs_8 : Nat) (gNp_9 : Nat) (gv_10 : Nat → Int) (gkk_11 : Nat → Int) (gM_12 : Int) (gmq_13 : Nat), ((TOK gT_7 gNs_8 gNp_9 ∧ CT gT_7 gNs_8 gNp_9 ns np fu fd fi sz_ pt kd nd ∧ CN gNs_8 gNp_9 gv_10 ht wm se cd sl od ow lo mi sd ∧ NOK gT_7 gNs_8 gNp_9 gkk_11 gM_12 gv_10 ∧ x = nI gmq_13 ∧ gmq_13 ≤ 60 ∧ 1 ≤ gNp_9 ∧ gNp_9 ≤ 4) ∧ (∀ (co2_15 : Nat → Int32) (wo2_16 : Nat → Int32) (ch2_17 : Nat → Int32) (be2_18 : Nat → Int32) (bc2_19 : Int32) (bl2_20 : Int32) (sw2_21 : Int32) (sh2_22 : Int32), (SRel gNp_9 (sF gT_7 gv_10 gmq_13 gNs_8 gNp_9 none 0 (10 ^ gNp_9)) bc2_19 bl2_20 be2_18) → (((if y = 0 then bc2_19 else if y = 1 then bl2_20 else if ¬ y - 2 < 0 ∧ ¬ 3 < y - 2 then be2_18 (y - 2).toNatClampNeg else (-1000000002)) : Int32).toInt = aSeating T Ns Np v x.toInt y.toInt)))) ∧ (¬ (¬ np < 1 ∧ ¬ 4 < np) → ((-1000000003) : Int32).toInt = aSeating T Ns Np v x.toInt y.toInt)) ∧ (¬ (y ≤ 1) → (¬ (y - 2) < 0 ∧ ¬ np ≤ (y - 2) → (¬ np < 1 ∧ ¬ 4 < np → ∃ (gT_28 : Nat → Nat → Int) (gNs_29 : Nat) (gNp_30 : Nat) (gv_31 : Nat → Int) (gkk_32 : Nat → Int) (gM_33 : Int) (gmq_34 : Nat), ((TOK gT_28 gNs_29 gNp_30 ∧ CT gT_28 gNs_29 gNp_30 ns np fu fd fi sz_ pt kd nd ∧ CN gNs_29 gNp_30 gv_31 ht wm se cd sl od ow lo mi sd ∧ NOK gT_28 gNs_29 gNp_30 gkk_32 gM_33 gv_31 ∧ x = nI gmq_34 ∧ gmq_34 ≤ 60 ∧ 1 ≤ gNp_30 ∧ gNp_30 ≤ 4) ∧ (∀ (co2_36 : Nat → Int32) (wo2_37 : Nat → Int32) (ch2_38 : Nat → Int32) (be2_39 : Nat → Int32) (bc2_40 : Int32) (bl2_41 : Int32) (sw2_42 : Int32) (sh2_43 : Int32), (SRel gNp_30 (sF gT_28 gv_31 gmq_34 gNs_29 gNp_30 none 0 (10 ^ gNp_30)) bc2_40 bl2_41 be2_39) → (((if y = 0 then bc2_40 else if y = 1 then bl2_41 else if ¬ y - 2 < 0 ∧ ¬ 3 < y - 2 then be2_39 (y - 2).toNatClampNeg else (-1000000002)) : Int32).toInt = aSeating T Ns Np v x.toInt y.toInt)))) ∧ (¬ (¬ np < 1 ∧ ¬ 4 < np) → ((-1000000003) : Int32).toInt = aSeating T Ns Np v x.toInt y.toInt)) ∧ (¬ (¬ (y - 2) < 0 ∧ ¬ np ≤ (y - 2)) → ((-1000000002) : Int32).toInt = aSeating T Ns Np v x.toInt y.toInt))))) : MetI l yX7_seating wsX7_seating 9 245 G [.ref h0, .int x, .int y] [(h0, .inr (7, [.ref e0, .ref t, .ref k, .ref n, .ref j, .ref i0, .int kp, .ref b0, .ref s0, .ref q, .ref g])), (t, .inr (6, [.int ns, .int np, .int fu, .int fd, .int fi, .ref t1, .ref t2, .ref t3, .ref t4, .ref t5, .ref t6])), aI G t1 9 sz_, aI G t2 9 pt, aI G t3 9 fh, aI G t4 8 kd, aI G t5 8 nd, aI G t6 8 fw, (n, .inr (1, [.ref n1, .ref n2, .ref n3, .ref n4, .ref n5, .ref n6, .ref n7, .int lo, .int mi, .int sd])), aI G n1 9 ht, aI G n2 8 wm, aI G n3 8 se, aI G n4 8 cd, aI G n5 8 sl, aI G n6 8 od, aI G n7 72 ow, (q, .inr (3, [.ref s1, .ref q1, .ref q2, .ref q3, .ref q4, .int bc, .int bl])), aI G q1 40 co, aI G q2 40 wo, aI G q3 4 ch, aI G q4 4 be, (s1, .inr (4, [.int sw1, .int sh1]))] sz (fun (r : Int32) (u : (Nat → Int32) × (Nat → Int32) × (Nat → Int32) × (Nat → Int32) × (Int32) × (Int32) × (Int32) × (Int32)) => r.toInt = aSeating T Ns Np v x.toInt y.toInt) (fun (u : (Nat → Int32) × (Nat → Int32) × (Nat → Int32) × (Nat → Int32) × (Int32) × (Int32) × (Int32) × (Int32)) => [(h0, .inr (7, [.ref e0, .ref t, .ref k, .ref n, .ref j, .ref i0, .int kp, .ref b0, .ref s0, .ref q, .ref g])), (t, .inr (6, [.int ns, .int np, .int fu, .int fd, .int fi, .ref t1, .ref t2, .ref t3, .ref t4, .ref t5, .ref t6])), aI G t1 9 sz_, aI G t2 9 pt, aI G t3 9 fh, aI G t4 8 kd, aI G t5 8 nd, aI G t6 8 fw, (n, .inr (1, [.ref n1, .ref n2, .ref n3, .ref n4, .ref n5, .ref n6, .ref n7, .int lo, .int mi, .int sd])), aI G n1 9 ht, aI G n2 8 wm, aI G n3 8 se, aI G n4 8 cd, aI G n5 8 sl, aI G n6 8 od, aI G n7 72 ow, (q, .inr (3, [.ref s1, .ref q1, .ref q2, .ref q3, .ref q4, .int u.2.2.2.2.1, .int u.2.2.2.2.2.1])), aI G q1 40 u.1, aI G q2 40 u.2.1, aI G q3 4 u.2.2.1, aI G q4 4 u.2.2.2.1, (s1, .inr (4, [.int u.2.2.2.2.2.2.1, .int u.2.2.2.2.2.2.2]))]) := by
  refine x_startI (cc := cX7_seating) (maxL := 3) (ret := (some .int)) (by decide) rfl (Nat.le_of_ble_eq_true rfl) ?_
  intro p e s m args below meth c A R Q ls hRf hRl hQ C hP hD hS hA hSS hl
  obtain ⟨hx, hb, hr, hml, hown, hts, hlocks, hKK⟩ := C
  have hown : s.vm.findClass RX7 = some m.cls := hown
  have hl : lv_has ls 3 [(0, .ref h0), (1, .int x), (2, .int y)] := hl
  have hinX6 : ∀ w ∈ u_ws RX6 TX6 11, w ∈ wsX7_seating := by decide +kernel
  have hinX7 : ∀ w ∈ u_ws RX7 TX7 11, w ∈ wsX7_seating := by decide +kernel
  have kl106 := hts (.fieldLink RX7 106 "WarmStones$Town" "persons" "I") (by decide +kernel)
  have kl179 := hts (.constant RX7 179 (-1000000003)) (by decide +kernel)
  have kl19 := hts (.fieldLink RX7 19 "WarmStones" "town" "LWarmStones$Town;") (by decide +kernel)
  have kl29 := hts (.fieldLink RX7 29 "WarmStones" "night" "LWarmStones$Night;") (by decide +kernel)
  have kl57 := hts (.fieldLink RX7 57 "WarmStones" "seats" "LWarmStones$Seating;") (by decide +kernel)
  have kl72 := hts (.constant RX7 72 (-1000000002)) (by decide +kernel)
  refine lv_iload_n hx hb dX7_seating_0 rfl (lv_at hl 1 rfl) ?_
  refine lv_iconst (v := 1) hx hb dX7_seating_1 (by decide) ?_
  refine lv_bipush (v := 60) hx hb dX7_seating_2 (by decide) ?_
  refine x_calliR (x_runS (As := [.int x, .int 1, .int 60]) (rest := []) (n := 3) ⟨hx, hb, hml, hown, hts⟩ (k_X7_within l G  _ x 1 60) gX7_seating_X7_within rfl (by decide +kernel) ⟨Nat.le_trans (Nat.le_of_ble_eq_true rfl) hRf, Nat.le_trans (Nat.le_of_ble_eq_true rfl) hRl⟩ hKK hSS hS hA hP hD [] (by decide) rfl rfl hl.1 rfl (Nat.le_of_ble_eq_true rfl) dX7_seating_4) hP hD hS hA [] rfl (fun r_1 _ H locs hw hP hS => ?_)
  replace hw := hw.symm; subst hw
  refine lv_if_eq (tgt := 32) hx hb dX7_seating_7 (by decide) (fun hc_2 => ?_) (fun hc_2 => ?_)
  · have hv := hv.1 (tv_eq.mp hc_2)
    refine lv_ldc (v := (-1000000002)) hx hb hown kl72 dX7_seating_32 ?_
    exact x_iret (v := (-1000000002)) (co, wo, ch, be, bc, bl, sw1, sh1) hQ hx hb hr hlocks hS dX7_seating_34 hv hP hD
  · have hv := hv.2 (tv_eqn.mp hc_2)
    refine lv_iload_n hx hb dX7_seating_10 rfl (lv_at hl 2 rfl) ?_
    refine lv_if_lt (tgt := 32) hx hb dX7_seating_11 (by decide) (fun hc_3 => ?_) (fun hc_3 => ?_)
    · have hv := hv.1 hc_3
      refine lv_ldc (v := (-1000000002)) hx hb hown kl72 dX7_seating_32 ?_
      exact x_iret (v := (-1000000002)) (co, wo, ch, be, bc, bl, sw1, sh1) hQ hx hb hr hlocks hS dX7_seating_34 hv hP hD
    · have hv := hv.2 hc_3
      refine lv_iload_n hx hb dX7_seating_14 rfl (lv_at hl 2 rfl) ?_
      refine lv_iconst (v := 1) hx hb dX7_seating_15 (by decide) ?_
      refine lv_icmp_le (tgt := 35) hx hb dX7_seating_16 (by decide) (fun hc_4 => ?_) (fun hc_4 => ?_)
      · have hv := hv.1 hc_4
        refine lv_aload_n hx hb dX7_seating_35 rfl (lv_at hl 0 rfl) ?_
        refine va_get (D := G.1) (ci := 7) (v := .ref t) (C := RX7) (T := TX7) (N := 11) hx hb hts hinX7 hown hKK.1 hP 0 rfl rfl 1 (by decide) kl19 (fun _ h9 => h9) rfl dX7_seating_36 ?_
        refine va_get (D := G.1) (ci := 6) (v := .int np) (C := RX6) (T := TX6) (N := 11) hx hb hts hinX6 hown hKK.1 hP 1 rfl rfl 1 (by decide) kl106 (fun _ h9 => h9) rfl dX7_seating_39 ?_
        refine lv_iconst (v := 1) hx hb dX7_seating_42 (by decide) ?_
        refine lv_iconst (v := 4) hx hb dX7_seating_43 (by decide) ?_
        refine x_calliR (x_runS (As := [.int np, .int 1, .int 4]) (rest := []) (n := 3) ⟨hx, hb, hml, hown, hts⟩ (k_X7_within l G  _ np 1 4) gX7_seating_X7_within rfl (by decide +kernel) ⟨Nat.le_trans (Nat.le_of_ble_eq_true rfl) hRf, Nat.le_trans (Nat.le_of_ble_eq_true rfl) hRl⟩ hKK hSS hS hA hP hD [] (by decide) rfl rfl hl.1 rfl (Nat.le_of_ble_eq_true rfl) dX7_seating_44) hP hD hS hA [] rfl (fun r_5 _ H locs hw hP hS => ?_)
        replace hw := hw.symm; subst hw
        refine lv_if_ne (tgt := 53) hx hb dX7_seating_47 (by decide) (fun hc_6 => ?_) (fun hc_6 => ?_)
        · have hv := hv.1 (tv_eqn.mp hc_6)
          refine lv_aload_n hx hb dX7_seating_53 rfl (lv_at hl 0 rfl) ?_
          refine va_get (D := G.1) (ci := 7) (v := .ref q) (C := RX7) (T := TX7) (N := 11) hx hb hts hinX7 hown hKK.1 hP 0 rfl rfl 9 (by decide) kl57 (fun _ h9 => h9) rfl dX7_seating_54 ?_
          refine lv_aload_n hx hb dX7_seating_57 rfl (lv_at hl 0 rfl) ?_
          refine va_get (D := G.1) (ci := 7) (v := .ref t) (C := RX7) (T := TX7) (N := 11) hx hb hts hinX7 hown hKK.1 hP 0 rfl rfl 1 (by decide) kl19 (fun _ h9 => h9) rfl dX7_seating_58 ?_
          refine lv_aload_n hx hb dX7_seating_61 rfl (lv_at hl 0 rfl) ?_
          refine va_get (D := G.1) (ci := 7) (v := .ref n) (C := RX7) (T := TX7) (N := 11) hx hb hts hinX7 hown hKK.1 hP 0 rfl rfl 3 (by decide) kl29 (fun _ h9 => h9) rfl dX7_seating_62 ?_
          refine lv_iload_n hx hb dX7_seating_65 rfl (lv_at hl 1 rfl) ?_
          obtain ⟨gT_7, gNs_8, gNp_9, gv_10, gkk_11, gM_12, gmq_13, hv⟩ := hv
          obtain ⟨hp, hv⟩ := hv
          refine x_callv (wr := [(h0, .inr (7, [.ref e0, .ref t, .ref k, .ref n, .ref j, .ref i0, .int kp, .ref b0, .ref s0, .ref q, .ref g]))]) (w' := fun (u : (Nat → Int32) × (Nat → Int32) × (Nat → Int32) × (Nat → Int32) × (Int32) × (Int32) × (Int32) × (Int32)) => [(h0, .inr (7, [.ref e0, .ref t, .ref k, .ref n, .ref j, .ref i0, .int kp, .ref b0, .ref s0, .ref q, .ref g])), (t, .inr (6, [.int ns, .int np, .int fu, .int fd, .int fi, .ref t1, .ref t2, .ref t3, .ref t4, .ref t5, .ref t6])), aI G t1 9 sz_, aI G t2 9 pt, aI G t3 9 fh, aI G t4 8 kd, aI G t5 8 nd, aI G t6 8 fw, (n, .inr (1, [.ref n1, .ref n2, .ref n3, .ref n4, .ref n5, .ref n6, .ref n7, .int lo, .int mi, .int sd])), aI G n1 9 ht, aI G n2 8 wm, aI G n3 8 se, aI G n4 8 cd, aI G n5 8 sl, aI G n6 8 od, aI G n7 72 ow, (q, .inr (3, [.ref s1, .ref q1, .ref q2, .ref q3, .ref q4, .int u.2.2.2.2.1, .int u.2.2.2.2.2.1])), aI G q1 40 u.1, aI G q2 40 u.2.1, aI G q3 4 u.2.2.1, aI G q4 4 u.2.2.2.1, (s1, .inr (4, [.int u.2.2.2.2.2.2.1, .int u.2.2.2.2.2.2.2]))]) (x_runV (As := [.ref t, .ref n, .int x]) (rest := []) (n := 3) (C := RX3) (ci := 3) ⟨hx, hb, hml, hown, hts⟩ (k_X3_search l G q q1 q2 q3 q4 s1 t t1 t2 t3 t4 t5 t6 n n1 n2 n3 n4 n5 n6 n7 _ bc bl co wo ch be sw1 sh1 ns np fu fd fi sz_ pt fh kd nd fw ht wm se cd sl od ow lo mi sd x gT_7 gNs_8 gNp_9 gv_10 gkk_11 gM_12 gmq_13 hp) gX7_seating_X3_search rfl (by decide +kernel) ⟨Nat.le_trans (Nat.le_of_ble_eq_true rfl) hRf, Nat.le_trans (Nat.le_of_ble_eq_true rfl) hRl⟩ hKK hSS hS hA hP hD [16, 17, 18, 19, 20, 21, 1, 2, 3, 4, 5, 6, 7, 8, 9, 10, 11, 12, 13, 14, 15] (by decide) rfl rfl rfl 16 rfl rfl hl.1 rfl (Nat.le_of_ble_eq_true rfl) dX7_seating_66) hP hD hS hA [16, 17, 18, 19, 20, 21, 1, 2, 3, 4, 5, 6, 7, 8, 9, 10, 11, 12, 13, 14, 15] [0] [0, 7, 8, 9, 10, 11, 12, 13, 14, 15, 16, 17, 18, 19, 20, 21, 1, 2, 3, 4, 5, 6] rfl rfl (by decide) (by decide) (by decide) (fun _ => rfl) (fun  u H locs hw hP hD hS => ?_)
          obtain ⟨co2_15, wo2_16, ch2_17, be2_18, bc2_19, bl2_20, sw2_21, sh2_22⟩ := u
          have hP : va_P G.1 vwCl [(h0, .inr (7, [.ref e0, .ref t, .ref k, .ref n, .ref j, .ref i0, .int kp, .ref b0, .ref s0, .ref q, .ref g])), (t, .inr (6, [.int ns, .int np, .int fu, .int fd, .int fi, .ref t1, .ref t2, .ref t3, .ref t4, .ref t5, .ref t6])), aI G t1 9 sz_, aI G t2 9 pt, aI G t3 9 fh, aI G t4 8 kd, aI G t5 8 nd, aI G t6 8 fw, (n, .inr (1, [.ref n1, .ref n2, .ref n3, .ref n4, .ref n5, .ref n6, .ref n7, .int lo, .int mi, .int sd])), aI G n1 9 ht, aI G n2 8 wm, aI G n3 8 se, aI G n4 8 cd, aI G n5 8 sl, aI G n6 8 od, aI G n7 72 ow, (q, .inr (3, [.ref s1, .ref q1, .ref q2, .ref q3, .ref q4, .int bc2_19, .int bl2_20])), aI G q1 40 co2_15, aI G q2 40 wo2_16, aI G q3 4 ch2_17, aI G q4 4 be2_18, (s1, .inr (4, [.int sw2_21, .int sh2_22]))] H := hP
          have hD : va_D A [(h0, .inr (7, [.ref e0, .ref t, .ref k, .ref n, .ref j, .ref i0, .int kp, .ref b0, .ref s0, .ref q, .ref g])), (t, .inr (6, [.int ns, .int np, .int fu, .int fd, .int fi, .ref t1, .ref t2, .ref t3, .ref t4, .ref t5, .ref t6])), aI G t1 9 sz_, aI G t2 9 pt, aI G t3 9 fh, aI G t4 8 kd, aI G t5 8 nd, aI G t6 8 fw, (n, .inr (1, [.ref n1, .ref n2, .ref n3, .ref n4, .ref n5, .ref n6, .ref n7, .int lo, .int mi, .int sd])), aI G n1 9 ht, aI G n2 8 wm, aI G n3 8 se, aI G n4 8 cd, aI G n5 8 sl, aI G n6 8 od, aI G n7 72 ow, (q, .inr (3, [.ref s1, .ref q1, .ref q2, .ref q3, .ref q4, .int bc2_19, .int bl2_20])), aI G q1 40 co2_15, aI G q2 40 wo2_16, aI G q3 4 ch2_17, aI G q4 4 be2_18, (s1, .inr (4, [.int sw2_21, .int sh2_22]))] := hD
          have hv := hv co2_15 wo2_16 ch2_17 be2_18 bc2_19 bl2_20 sw2_21 sh2_22 hw
          refine lv_aload_n hx hb dX7_seating_69 rfl (lv_at hl 0 rfl) ?_
          refine va_get (D := G.1) (ci := 7) (v := .ref q) (C := RX7) (T := TX7) (N := 11) hx hb hts hinX7 hown hKK.1 hP 0 rfl rfl 9 (by decide) kl57 (fun _ h9 => h9) rfl dX7_seating_70 ?_
          refine lv_iload_n hx hb dX7_seating_73 rfl (lv_at hl 2 rfl) ?_
          refine x_calliR (x_runV (As := [.int y]) (rest := []) (n := 1) (C := RX3) (ci := 3) ⟨hx, hb, hml, hown, hts⟩ (k_X3_answer l G q q1 q2 q3 q4 _ s1 bc2_19 bl2_20 co2_15 wo2_16 ch2_17 be2_18 y) gX7_seating_X3_answer rfl (by decide +kernel) ⟨Nat.le_trans (Nat.le_of_ble_eq_true rfl) hRf, Nat.le_trans (Nat.le_of_ble_eq_true rfl) hRl⟩ hKK hSS hS hA hP hD [16, 17, 18, 19, 20] (by decide) rfl rfl rfl 16 rfl rfl hl.1 rfl (Nat.le_of_ble_eq_true rfl) dX7_seating_74) hP hD hS hA [16, 17, 18, 19, 20] rfl (fun r_23 _ H locs hw hP hS => ?_)
          replace hw := hw.symm; subst hw
          exact x_iret (v := (if y = 0 then bc2_19 else if y = 1 then bl2_20 else if ¬ y - 2 < 0 ∧ ¬ 3 < y - 2 then be2_18 (y - 2).toNatClampNeg else (-1000000002))) (co2_15, wo2_16, ch2_17, be2_18, bc2_19, bl2_20, sw2_21, sh2_22) hQ hx hb hr hlocks hS dX7_seating_77 hv hP hD
        · have hv := hv.2 (tv_eq.mp hc_6)
          refine lv_ldc (v := (-1000000003)) hx hb hown kl179 dX7_seating_50 ?_
          exact x_iret (v := (-1000000003)) (co, wo, ch, be, bc, bl, sw1, sh1) hQ hx hb hr hlocks hS dX7_seating_52 hv hP hD
      · have hv := hv.2 hc_4
        refine lv_aload_n hx hb dX7_seating_19 rfl (lv_at hl 0 rfl) ?_
        refine va_get (D := G.1) (ci := 7) (v := .ref t) (C := RX7) (T := TX7) (N := 11) hx hb hts hinX7 hown hKK.1 hP 0 rfl rfl 1 (by decide) kl19 (fun _ h9 => h9) rfl dX7_seating_20 ?_
        refine lv_iload_n hx hb dX7_seating_23 rfl (lv_at hl 2 rfl) ?_
        refine lv_iconst (v := 2) hx hb dX7_seating_24 (by decide) ?_
        refine lv_isub hx hb dX7_seating_25 ?_
        refine x_calliR (x_runV (As := [.int (y - 2)]) (rest := []) (n := 1) (C := RX6) (ci := 6) ⟨hx, hb, hml, hown, hts⟩ (k_X6_hasPerson l G t t1 t2 t3 t4 t5 t6 _ ns np fu fd fi sz_ pt fh kd nd fw (y - 2)) gX7_seating_X6_hasPerson rfl (by decide +kernel) ⟨Nat.le_trans (Nat.le_of_ble_eq_true rfl) hRf, Nat.le_trans (Nat.le_of_ble_eq_true rfl) hRl⟩ hKK hSS hS hA hP hD [1, 2, 3, 4, 5, 6, 7] (by decide) rfl rfl rfl 1 rfl rfl hl.1 rfl (Nat.le_of_ble_eq_true rfl) dX7_seating_26) hP hD hS hA [1, 2, 3, 4, 5, 6, 7] rfl (fun r_24 _ H locs hw hP hS => ?_)
        replace hw := hw.symm; subst hw
        refine lv_if_ne (tgt := 35) hx hb dX7_seating_29 (by decide) (fun hc_25 => ?_) (fun hc_25 => ?_)
        · have hv := hv.1 (tv_eqn.mp hc_25)
          refine lv_aload_n hx hb dX7_seating_35 rfl (lv_at hl 0 rfl) ?_
          refine va_get (D := G.1) (ci := 7) (v := .ref t) (C := RX7) (T := TX7) (N := 11) hx hb hts hinX7 hown hKK.1 hP 0 rfl rfl 1 (by decide) kl19 (fun _ h9 => h9) rfl dX7_seating_36 ?_
          refine va_get (D := G.1) (ci := 6) (v := .int np) (C := RX6) (T := TX6) (N := 11) hx hb hts hinX6 hown hKK.1 hP 1 rfl rfl 1 (by decide) kl106 (fun _ h9 => h9) rfl dX7_seating_39 ?_
          refine lv_iconst (v := 1) hx hb dX7_seating_42 (by decide) ?_
          refine lv_iconst (v := 4) hx hb dX7_seating_43 (by decide) ?_
          refine x_calliR (x_runS (As := [.int np, .int 1, .int 4]) (rest := []) (n := 3) ⟨hx, hb, hml, hown, hts⟩ (k_X7_within l G  _ np 1 4) gX7_seating_X7_within rfl (by decide +kernel) ⟨Nat.le_trans (Nat.le_of_ble_eq_true rfl) hRf, Nat.le_trans (Nat.le_of_ble_eq_true rfl) hRl⟩ hKK hSS hS hA hP hD [] (by decide) rfl rfl hl.1 rfl (Nat.le_of_ble_eq_true rfl) dX7_seating_44) hP hD hS hA [] rfl (fun r_26 _ H locs hw hP hS => ?_)
          replace hw := hw.symm; subst hw
          refine lv_if_ne (tgt := 53) hx hb dX7_seating_47 (by decide) (fun hc_27 => ?_) (fun hc_27 => ?_)
          · have hv := hv.1 (tv_eqn.mp hc_27)
            refine lv_aload_n hx hb dX7_seating_53 rfl (lv_at hl 0 rfl) ?_
            refine va_get (D := G.1) (ci := 7) (v := .ref q) (C := RX7) (T := TX7) (N := 11) hx hb hts hinX7 hown hKK.1 hP 0 rfl rfl 9 (by decide) kl57 (fun _ h9 => h9) rfl dX7_seating_54 ?_
            refine lv_aload_n hx hb dX7_seating_57 rfl (lv_at hl 0 rfl) ?_
            refine va_get (D := G.1) (ci := 7) (v := .ref t) (C := RX7) (T := TX7) (N := 11) hx hb hts hinX7 hown hKK.1 hP 0 rfl rfl 1 (by decide) kl19 (fun _ h9 => h9) rfl dX7_seating_58 ?_
            refine lv_aload_n hx hb dX7_seating_61 rfl (lv_at hl 0 rfl) ?_
            refine va_get (D := G.1) (ci := 7) (v := .ref n) (C := RX7) (T := TX7) (N := 11) hx hb hts hinX7 hown hKK.1 hP 0 rfl rfl 3 (by decide) kl29 (fun _ h9 => h9) rfl dX7_seating_62 ?_
            refine lv_iload_n hx hb dX7_seating_65 rfl (lv_at hl 1 rfl) ?_
            obtain ⟨gT_28, gNs_29, gNp_30, gv_31, gkk_32, gM_33, gmq_34, hv⟩ := hv
            obtain ⟨hp, hv⟩ := hv
            refine x_callv (wr := [(h0, .inr (7, [.ref e0, .ref t, .ref k, .ref n, .ref j, .ref i0, .int kp, .ref b0, .ref s0, .ref q, .ref g]))]) (w' := fun (u : (Nat → Int32) × (Nat → Int32) × (Nat → Int32) × (Nat → Int32) × (Int32) × (Int32) × (Int32) × (Int32)) => [(h0, .inr (7, [.ref e0, .ref t, .ref k, .ref n, .ref j, .ref i0, .int kp, .ref b0, .ref s0, .ref q, .ref g])), (t, .inr (6, [.int ns, .int np, .int fu, .int fd, .int fi, .ref t1, .ref t2, .ref t3, .ref t4, .ref t5, .ref t6])), aI G t1 9 sz_, aI G t2 9 pt, aI G t3 9 fh, aI G t4 8 kd, aI G t5 8 nd, aI G t6 8 fw, (n, .inr (1, [.ref n1, .ref n2, .ref n3, .ref n4, .ref n5, .ref n6, .ref n7, .int lo, .int mi, .int sd])), aI G n1 9 ht, aI G n2 8 wm, aI G n3 8 se, aI G n4 8 cd, aI G n5 8 sl, aI G n6 8 od, aI G n7 72 ow, (q, .inr (3, [.ref s1, .ref q1, .ref q2, .ref q3, .ref q4, .int u.2.2.2.2.1, .int u.2.2.2.2.2.1])), aI G q1 40 u.1, aI G q2 40 u.2.1, aI G q3 4 u.2.2.1, aI G q4 4 u.2.2.2.1, (s1, .inr (4, [.int u.2.2.2.2.2.2.1, .int u.2.2.2.2.2.2.2]))]) (x_runV (As := [.ref t, .ref n, .int x]) (rest := []) (n := 3) (C := RX3) (ci := 3) ⟨hx, hb, hml, hown, hts⟩ (k_X3_search l G q q1 q2 q3 q4 s1 t t1 t2 t3 t4 t5 t6 n n1 n2 n3 n4 n5 n6 n7 _ bc bl co wo ch be sw1 sh1 ns np fu fd fi sz_ pt fh kd nd fw ht wm se cd sl od ow lo mi sd x gT_28 gNs_29 gNp_30 gv_31 gkk_32 gM_33 gmq_34 hp) gX7_seating_X3_search rfl (by decide +kernel) ⟨Nat.le_trans (Nat.le_of_ble_eq_true rfl) hRf, Nat.le_trans (Nat.le_of_ble_eq_true rfl) hRl⟩ hKK hSS hS hA hP hD [16, 17, 18, 19, 20, 21, 1, 2, 3, 4, 5, 6, 7, 8, 9, 10, 11, 12, 13, 14, 15] (by decide) rfl rfl rfl 16 rfl rfl hl.1 rfl (Nat.le_of_ble_eq_true rfl) dX7_seating_66) hP hD hS hA [16, 17, 18, 19, 20, 21, 1, 2, 3, 4, 5, 6, 7, 8, 9, 10, 11, 12, 13, 14, 15] [0] [0, 7, 8, 9, 10, 11, 12, 13, 14, 15, 16, 17, 18, 19, 20, 21, 1, 2, 3, 4, 5, 6] rfl rfl (by decide) (by decide) (by decide) (fun _ => rfl) (fun  u H locs hw hP hD hS => ?_)
            obtain ⟨co2_36, wo2_37, ch2_38, be2_39, bc2_40, bl2_41, sw2_42, sh2_43⟩ := u
            have hP : va_P G.1 vwCl [(h0, .inr (7, [.ref e0, .ref t, .ref k, .ref n, .ref j, .ref i0, .int kp, .ref b0, .ref s0, .ref q, .ref g])), (t, .inr (6, [.int ns, .int np, .int fu, .int fd, .int fi, .ref t1, .ref t2, .ref t3, .ref t4, .ref t5, .ref t6])), aI G t1 9 sz_, aI G t2 9 pt, aI G t3 9 fh, aI G t4 8 kd, aI G t5 8 nd, aI G t6 8 fw, (n, .inr (1, [.ref n1, .ref n2, .ref n3, .ref n4, .ref n5, .ref n6, .ref n7, .int lo, .int mi, .int sd])), aI G n1 9 ht, aI G n2 8 wm, aI G n3 8 se, aI G n4 8 cd, aI G n5 8 sl, aI G n6 8 od, aI G n7 72 ow, (q, .inr (3, [.ref s1, .ref q1, .ref q2, .ref q3, .ref q4, .int bc2_40, .int bl2_41])), aI G q1 40 co2_36, aI G q2 40 wo2_37, aI G q3 4 ch2_38, aI G q4 4 be2_39, (s1, .inr (4, [.int sw2_42, .int sh2_43]))] H := hP
            have hD : va_D A [(h0, .inr (7, [.ref e0, .ref t, .ref k, .ref n, .ref j, .ref i0, .int kp, .ref b0, .ref s0, .ref q, .ref g])), (t, .inr (6, [.int ns, .int np, .int fu, .int fd, .int fi, .ref t1, .ref t2, .ref t3, .ref t4, .ref t5, .ref t6])), aI G t1 9 sz_, aI G t2 9 pt, aI G t3 9 fh, aI G t4 8 kd, aI G t5 8 nd, aI G t6 8 fw, (n, .inr (1, [.ref n1, .ref n2, .ref n3, .ref n4, .ref n5, .ref n6, .ref n7, .int lo, .int mi, .int sd])), aI G n1 9 ht, aI G n2 8 wm, aI G n3 8 se, aI G n4 8 cd, aI G n5 8 sl, aI G n6 8 od, aI G n7 72 ow, (q, .inr (3, [.ref s1, .ref q1, .ref q2, .ref q3, .ref q4, .int bc2_40, .int bl2_41])), aI G q1 40 co2_36, aI G q2 40 wo2_37, aI G q3 4 ch2_38, aI G q4 4 be2_39, (s1, .inr (4, [.int sw2_42, .int sh2_43]))] := hD
            have hv := hv co2_36 wo2_37 ch2_38 be2_39 bc2_40 bl2_41 sw2_42 sh2_43 hw
            refine lv_aload_n hx hb dX7_seating_69 rfl (lv_at hl 0 rfl) ?_
            refine va_get (D := G.1) (ci := 7) (v := .ref q) (C := RX7) (T := TX7) (N := 11) hx hb hts hinX7 hown hKK.1 hP 0 rfl rfl 9 (by decide) kl57 (fun _ h9 => h9) rfl dX7_seating_70 ?_
            refine lv_iload_n hx hb dX7_seating_73 rfl (lv_at hl 2 rfl) ?_
            refine x_calliR (x_runV (As := [.int y]) (rest := []) (n := 1) (C := RX3) (ci := 3) ⟨hx, hb, hml, hown, hts⟩ (k_X3_answer l G q q1 q2 q3 q4 _ s1 bc2_40 bl2_41 co2_36 wo2_37 ch2_38 be2_39 y) gX7_seating_X3_answer rfl (by decide +kernel) ⟨Nat.le_trans (Nat.le_of_ble_eq_true rfl) hRf, Nat.le_trans (Nat.le_of_ble_eq_true rfl) hRl⟩ hKK hSS hS hA hP hD [16, 17, 18, 19, 20] (by decide) rfl rfl rfl 16 rfl rfl hl.1 rfl (Nat.le_of_ble_eq_true rfl) dX7_seating_74) hP hD hS hA [16, 17, 18, 19, 20] rfl (fun r_44 _ H locs hw hP hS => ?_)
            replace hw := hw.symm; subst hw
            exact x_iret (v := (if y = 0 then bc2_40 else if y = 1 then bl2_41 else if ¬ y - 2 < 0 ∧ ¬ 3 < y - 2 then be2_39 (y - 2).toNatClampNeg else (-1000000002))) (co2_36, wo2_37, ch2_38, be2_39, bc2_40, bl2_41, sw2_42, sh2_43) hQ hx hb hr hlocks hS dX7_seating_77 hv hP hD
          · have hv := hv.2 (tv_eq.mp hc_27)
            refine lv_ldc (v := (-1000000003)) hx hb hown kl179 dX7_seating_50 ?_
            exact x_iret (v := (-1000000003)) (co, wo, ch, be, bc, bl, sw1, sh1) hQ hx hb hr hlocks hS dX7_seating_52 hv hP hD
        · have hv := hv.2 (tv_eq.mp hc_25)
          refine lv_ldc (v := (-1000000002)) hx hb hown kl72 dX7_seating_32 ?_
          exact x_iret (v := (-1000000002)) (co, wo, ch, be, bc, bl, sw1, sh1) hQ hx hb hr hlocks hS dX7_seating_34 hv hP hD
theorem v_X7_seating (l : Launch) (G : Gt) (h0 t t1 t2 t3 t4 t5 t6 n n1 n2 n3 n4 n5 n6 n7 q q1 q2 q3 q4 s1 : Nat) (sz : Nat) (e0 : Nat) (k : Nat) (j : Nat) (i0 : Nat) (b0 : Nat) (s0 : Nat) (g : Nat) (kp : Int32) (ns : Int32) (np : Int32) (fu : Int32) (fd : Int32) (fi : Int32) (sz_ : Nat → Int32) (pt : Nat → Int32) (fh : Nat → Int32) (kd : Nat → Int32) (nd : Nat → Int32) (fw : Nat → Int32) (ht : Nat → Int32) (wm : Nat → Int32) (se : Nat → Int32) (cd : Nat → Int32) (sl : Nat → Int32) (od : Nat → Int32) (ow : Nat → Int32) (lo : Int32) (mi : Int32) (sd : Int32) (bc : Int32) (bl : Int32) (co : Nat → Int32) (wo : Nat → Int32) (ch : Nat → Int32) (be : Nat → Int32) (sw1 : Int32) (sh1 : Int32) (x : Int32) (y : Int32) (T : Nat → Nat → Int) (Ns : Nat) (Np : Nat) (v : Nat → Int) (M : Int) (hp : TOK T Ns Np ∧ CT T Ns Np ns np fu fd fi sz_ pt kd nd ∧ CN Ns Np v ht wm se cd sl od ow lo mi sd ∧ NOK T Ns Np (fun _ => 2 * M) M v ∧ M ≤ 900000) : (¬ (¬ x < 1 ∧ ¬ 60 < x) → ((-1000000002) : Int32).toInt = aSeating T Ns Np v x.toInt y.toInt) ∧ (¬ x < 1 ∧ ¬ 60 < x → (y < 0 → ((-1000000002) : Int32).toInt = aSeating T Ns Np v x.toInt y.toInt) ∧ (¬ (y < 0) → (y ≤ 1 → (¬ np < 1 ∧ ¬ 4 < np → ∃ (gT_7 : Nat → Nat → Int) (gNs_8 : Nat) (gNp_9 : Nat) (gv_10 : Nat → Int) (gkk_11 : Nat → Int) (gM_12 : Int) (gmq_13 : Nat), ((TOK gT_7 gNs_8 gNp_9 ∧ CT gT_7 gNs_8 gNp_9 ns np fu fd fi sz_ pt kd nd ∧ CN gNs_8 gNp_9 gv_10 ht wm se cd sl od ow lo mi sd ∧ NOK gT_7 gNs_8 gNp_9 gkk_11 gM_12 gv_10 ∧ x = nI gmq_13 ∧ gmq_13 ≤ 60 ∧ 1 ≤ gNp_9 ∧ gNp_9 ≤ 4) ∧ (∀ (co2_15 : Nat → Int32) (wo2_16 : Nat → Int32) (ch2_17 : Nat → Int32) (be2_18 : Nat → Int32) (bc2_19 : Int32) (bl2_20 : Int32) (sw2_21 : Int32) (sh2_22 : Int32), (SRel gNp_9 (sF gT_7 gv_10 gmq_13 gNs_8 gNp_9 none 0 (10 ^ gNp_9)) bc2_19 bl2_20 be2_18) → (((if y = 0 then bc2_19 else if y = 1 then bl2_20 else if ¬ y - 2 < 0 ∧ ¬ 3 < y - 2 then be2_18 (y - 2).toNatClampNeg else (-1000000002)) : Int32).toInt = aSeating T Ns Np v x.toInt y.toInt)))) ∧ (¬ (¬ np < 1 ∧ ¬ 4 < np) → ((-1000000003) : Int32).toInt = aSeating T Ns Np v x.toInt y.toInt)) ∧ (¬ (y ≤ 1) → (¬ (y - 2) < 0 ∧ ¬ np ≤ (y - 2) → (¬ np < 1 ∧ ¬ 4 < np → ∃ (gT_28 : Nat → Nat → Int) (gNs_29 : Nat) (gNp_30 : Nat) (gv_31 : Nat → Int) (gkk_32 : Nat → Int) (gM_33 : Int) (gmq_34 : Nat), ((TOK gT_28 gNs_29 gNp_30 ∧ CT gT_28 gNs_29 gNp_30 ns np fu fd fi sz_ pt kd nd ∧ CN gNs_29 gNp_30 gv_31 ht wm se cd sl od ow lo mi sd ∧ NOK gT_28 gNs_29 gNp_30 gkk_32 gM_33 gv_31 ∧ x = nI gmq_34 ∧ gmq_34 ≤ 60 ∧ 1 ≤ gNp_30 ∧ gNp_30 ≤ 4) ∧ (∀ (co2_36 : Nat → Int32) (wo2_37 : Nat → Int32) (ch2_38 : Nat → Int32) (be2_39 : Nat → Int32) (bc2_40 : Int32) (bl2_41 : Int32) (sw2_42 : Int32) (sh2_43 : Int32), (SRel gNp_30 (sF gT_28 gv_31 gmq_34 gNs_29 gNp_30 none 0 (10 ^ gNp_30)) bc2_40 bl2_41 be2_39) → (((if y = 0 then bc2_40 else if y = 1 then bl2_41 else if ¬ y - 2 < 0 ∧ ¬ 3 < y - 2 then be2_39 (y - 2).toNatClampNeg else (-1000000002)) : Int32).toInt = aSeating T Ns Np v x.toInt y.toInt)))) ∧ (¬ (¬ np < 1 ∧ ¬ 4 < np) → ((-1000000003) : Int32).toInt = aSeating T Ns Np v x.toInt y.toInt)) ∧ (¬ (¬ (y - 2) < 0 ∧ ¬ np ≤ (y - 2)) → ((-1000000002) : Int32).toInt = aSeating T Ns Np v x.toInt y.toInt)))) := by
  obtain ⟨hT, hC, hN, hO, hM⟩ := hp
  have t1 := hT.1
  have t2 := hT.2.1
  have hns : ns = nI Ns := hC.1
  have hnp : np = nI Np := hC.2.1
  have hx_ : (¬ x < 1 ∧ ¬ 60 < x) ↔ (1 ≤ x.toInt ∧ x.toInt ≤ 60) := wi_iff rfl rfl
  have hnpi : np.toInt = (Np : Int) := by rw [hnp]; exact nI_toInt (by omega)
  have hn_ : (¬ np < 1 ∧ ¬ 4 < np) ↔ (1 ≤ Np ∧ Np ≤ 4) := by
    rw [i_lt hnpi i32_1, i_lt (show (4 : Int32).toInt = 4 from rfl) hnpi]; omega
  have hy0 : y < 0 ↔ y.toInt < 0 := i_lt rfl rfl
  have hy1 : y ≤ 1 ↔ y.toInt ≤ 1 := i_le rfl rfl
  simp only [hx_, hn_, hy0, hy1]
  have out : ¬ (0 ≤ y.toInt ∧ y.toInt ≤ Np + 1) → ((-1000000002) : Int32).toInt = aSeating T Ns Np v x.toInt y.toInt := fun h => by rw [aSeating, if_pos (Or.inr h)]; rfl
  have nt : (1 ≤ x.toInt ∧ x.toInt ≤ 60) → (0 ≤ y.toInt ∧ y.toInt ≤ Np + 1) → ¬ (1 ≤ Np ∧ Np ≤ 4) → ((-1000000003) : Int32).toInt = aSeating T Ns Np v x.toInt y.toInt := fun hx hy h => by rw [aSeating, if_neg (fun z => z.elim (fun q => q hx) (fun q => q hy)), if_pos h]; rfl
  refine ⟨fun h => by rw [aSeating, if_pos (Or.inl h)]; rfl, fun hx => ?_⟩
  obtain ⟨m, hm, rfl, hxi, hxt⟩ := in_nat (x := x) (n := 61) (by omega) (by omega)
  have hy2 : ¬ y.toInt ≤ 1 → (y - 2).toInt = y.toInt - 2 := fun h => i_sub rfl (show (2 : Int32).toInt = 2 from rfl) (by omega) (by have := fb_rng y; omega)
  have fin : (0 ≤ y.toInt ∧ y.toInt ≤ Np + 1) → (1 ≤ Np ∧ Np ≤ 4) → ∀ (be2 : Nat → Int32) (bc2 bl2 : Int32), SRel Np (sF T v m Ns Np none 0 (10 ^ Np)) bc2 bl2 be2 → ((if y = 0 then bc2 else if y = 1 then bl2 else if ¬ y - 2 < 0 ∧ ¬ 3 < y - 2 then be2 (y - 2).toNatClampNeg else (-1000000002)) : Int32).toInt = aSeating T Ns Np v (nI m).toInt y.toInt := by
    intro hy hn be2 bc2 bl2 hS
    rw [aSeating, if_neg (show ¬ (¬ (1 ≤ (nI m).toInt ∧ (nI m).toInt ≤ 60) ∨ ¬ (0 ≤ y.toInt ∧ y.toInt ≤ Np + 1)) from fun z => z.elim (fun q => q hx) (fun q => q hy)), if_neg (show ¬ ¬ (1 ≤ Np ∧ Np ≤ 4) from fun z => z hn), hxt]
    have hsome := sF_all (T := T) (v := v) (m := m) (ns := Ns) (np := Np) (n := 10 ^ Np) (Nat.pow_pos (by omega))
    cases hsf : sF T v m Ns Np none 0 (10 ^ Np) with
    | none => exact absurd hsf hsome
    | some t =>
      obtain ⟨a1, a2, a3⟩ := t
      rw [hsf] at hS
      obtain ⟨s1, s2, s3, s4⟩ := hS
      have y0_ : y = 0 ↔ y.toInt = 0 := i_eq rfl rfl
      have y1_ : y = 1 ↔ y.toInt = 1 := i_eq rfl rfl
      dsimp only
      by_cases q0 : y.toInt = 0
      · rw [if_pos q0, if_pos (y0_.mpr q0)]; exact s1
      · rw [if_neg q0, if_neg (fun z => q0 (y0_.mp z))]
        by_cases q1 : y.toInt = 1
        · rw [if_pos q1, if_pos (y1_.mpr q1)]; exact s2
        · have e2 := hy2 (by omega)
          rw [if_neg q1, if_neg (fun z => q1 (y1_.mp z)), if_pos ((wi_iff (x := y - 2) (y := 0) (z := 3) (a := 0) (b := 3) rfl rfl).mpr (by omega)), cl_of (x := y - 2) (n := (y.toInt - 2).toNat) (by omega)]
          exact s4 _ (by omega)
  refine ⟨fun h => out (by omega), fun h => ⟨fun h1 => ⟨fun hn => ⟨T, Ns, Np, v, _, M, m, ⟨hT, hC, hN, hO, rfl, by omega, hn.1, hn.2⟩, fun _ _ _ be2 bc2 bl2 _ _ hS => fin (by omega) hn be2 bc2 bl2 hS⟩, fun hn => nt hx (by omega) hn⟩, fun h1 => ?_⟩⟩
  have e2 := hy2 h1
  have hh : (¬ (y - 2) < 0 ∧ ¬ np ≤ (y - 2)) ↔ (0 ≤ y.toInt ∧ y.toInt ≤ Np + 1) := by
    rw [i_lt e2 i32_0, i_le hnpi e2]; omega
  rw [hh]
  exact ⟨fun hy => ⟨fun hn => ⟨T, Ns, Np, v, _, M, m, ⟨hT, hC, hN, hO, rfl, by omega, hn.1, hn.2⟩, fun _ _ _ be2 bc2 bl2 _ _ hS => fin hy hn be2 bc2 bl2 hS⟩, fun hn => nt hx hy hn⟩, fun hy => out hy⟩
theorem k_X7_seating (l : Launch) (G : Gt) (h0 t t1 t2 t3 t4 t5 t6 n n1 n2 n3 n4 n5 n6 n7 q q1 q2 q3 q4 s1 : Nat) (sz : Nat) (e0 : Nat) (k : Nat) (j : Nat) (i0 : Nat) (b0 : Nat) (s0 : Nat) (g : Nat) (kp : Int32) (ns : Int32) (np : Int32) (fu : Int32) (fd : Int32) (fi : Int32) (sz_ : Nat → Int32) (pt : Nat → Int32) (fh : Nat → Int32) (kd : Nat → Int32) (nd : Nat → Int32) (fw : Nat → Int32) (ht : Nat → Int32) (wm : Nat → Int32) (se : Nat → Int32) (cd : Nat → Int32) (sl : Nat → Int32) (od : Nat → Int32) (ow : Nat → Int32) (lo : Int32) (mi : Int32) (sd : Int32) (bc : Int32) (bl : Int32) (co : Nat → Int32) (wo : Nat → Int32) (ch : Nat → Int32) (be : Nat → Int32) (sw1 : Int32) (sh1 : Int32) (x : Int32) (y : Int32) (T : Nat → Nat → Int) (Ns : Nat) (Np : Nat) (v : Nat → Int) (M : Int) (hp : TOK T Ns Np ∧ CT T Ns Np ns np fu fd fi sz_ pt kd nd ∧ CN Ns Np v ht wm se cd sl od ow lo mi sd ∧ NOK T Ns Np (fun _ => 2 * M) M v ∧ M ≤ 900000) : MetI l yX7_seating wsX7_seating 9 245 G [.ref h0, .int x, .int y] [(h0, .inr (7, [.ref e0, .ref t, .ref k, .ref n, .ref j, .ref i0, .int kp, .ref b0, .ref s0, .ref q, .ref g])), (t, .inr (6, [.int ns, .int np, .int fu, .int fd, .int fi, .ref t1, .ref t2, .ref t3, .ref t4, .ref t5, .ref t6])), aI G t1 9 sz_, aI G t2 9 pt, aI G t3 9 fh, aI G t4 8 kd, aI G t5 8 nd, aI G t6 8 fw, (n, .inr (1, [.ref n1, .ref n2, .ref n3, .ref n4, .ref n5, .ref n6, .ref n7, .int lo, .int mi, .int sd])), aI G n1 9 ht, aI G n2 8 wm, aI G n3 8 se, aI G n4 8 cd, aI G n5 8 sl, aI G n6 8 od, aI G n7 72 ow, (q, .inr (3, [.ref s1, .ref q1, .ref q2, .ref q3, .ref q4, .int bc, .int bl])), aI G q1 40 co, aI G q2 40 wo, aI G q3 4 ch, aI G q4 4 be, (s1, .inr (4, [.int sw1, .int sh1]))] sz (fun (r : Int32) (u : (Nat → Int32) × (Nat → Int32) × (Nat → Int32) × (Nat → Int32) × (Int32) × (Int32) × (Int32) × (Int32)) => r.toInt = aSeating T Ns Np v x.toInt y.toInt) (fun (u : (Nat → Int32) × (Nat → Int32) × (Nat → Int32) × (Nat → Int32) × (Int32) × (Int32) × (Int32) × (Int32)) => [(h0, .inr (7, [.ref e0, .ref t, .ref k, .ref n, .ref j, .ref i0, .int kp, .ref b0, .ref s0, .ref q, .ref g])), (t, .inr (6, [.int ns, .int np, .int fu, .int fd, .int fi, .ref t1, .ref t2, .ref t3, .ref t4, .ref t5, .ref t6])), aI G t1 9 sz_, aI G t2 9 pt, aI G t3 9 fh, aI G t4 8 kd, aI G t5 8 nd, aI G t6 8 fw, (n, .inr (1, [.ref n1, .ref n2, .ref n3, .ref n4, .ref n5, .ref n6, .ref n7, .int lo, .int mi, .int sd])), aI G n1 9 ht, aI G n2 8 wm, aI G n3 8 se, aI G n4 8 cd, aI G n5 8 sl, aI G n6 8 od, aI G n7 72 ow, (q, .inr (3, [.ref s1, .ref q1, .ref q2, .ref q3, .ref q4, .int u.2.2.2.2.1, .int u.2.2.2.2.2.1])), aI G q1 40 u.1, aI G q2 40 u.2.1, aI G q3 4 u.2.2.1, aI G q4 4 u.2.2.2.1, (s1, .inr (4, [.int u.2.2.2.2.2.2.1, .int u.2.2.2.2.2.2.2]))]) :=
  c_X7_seating l G h0 t t1 t2 t3 t4 t5 t6 n n1 n2 n3 n4 n5 n6 n7 q q1 q2 q3 q4 s1 sz e0 k j i0 b0 s0 g kp ns np fu fd fi sz_ pt fh kd nd fw ht wm se cd sl od ow lo mi sd bc bl co wo ch be sw1 sh1 x y T Ns Np v M (v_X7_seating l G h0 t t1 t2 t3 t4 t5 t6 n n1 n2 n3 n4 n5 n6 n7 q q1 q2 q3 q4 s1 sz e0 k j i0 b0 s0 g kp ns np fu fd fi sz_ pt fh kd nd fw ht wm se cd sl od ow lo mi sd bc bl co wo ch be sw1 sh1 x y T Ns Np v M hp)

set_option maxHeartbeats 4000000 in
set_option maxRecDepth 100000 in
theorem c_X7_passed (l : Launch) (G : Gt) (h0 t t1 t2 t3 t4 t5 t6 n n1 n2 n3 n4 n5 n6 n7 g g1 g2 g3 s2 : Nat) (sz : Nat) (e0 : Nat) (k : Nat) (j : Nat) (i0 : Nat) (b0 : Nat) (s0 : Nat) (q : Nat) (kp : Int32) (ns : Int32) (np : Int32) (fu : Int32) (fd : Int32) (fi : Int32) (sz_ : Nat → Int32) (pt : Nat → Int32) (fh : Nat → Int32) (kd : Nat → Int32) (nd : Nat → Int32) (fw : Nat → Int32) (ht : Nat → Int32) (wm : Nat → Int32) (se : Nat → Int32) (cd : Nat → Int32) (sl : Nat → Int32) (od : Nat → Int32) (ow : Nat → Int32) (lo : Int32) (mi : Int32) (sd : Int32) (gs : Int32) (gm : Int32) (gb : Int32) (go : Nat → Int32) (gz : Nat → Int32) (gf : Nat → Int32) (sw2 : Int32) (sh2 : Int32) (x : Int32) (s_ : Int32) (w0 : Int32) (w1 : Int32) (T : Nat → Nat → Int) (Ns : Nat) (Np : Nat) (v : Nat → Int) (M : Int) (hv : (¬ (¬ x < 0 ∧ ¬ ns ≤ x) → ((-1000000001) : Int32).toInt = aPassed T Ns Np v x.toInt s_.toInt w0.toInt w1.toInt) ∧ (¬ x < 0 ∧ ¬ ns ≤ x → (((s_).toUInt32 >>> ((np : Int32).toUInt32 &&& Int32.toUInt32 31)).toInt32 = 0 → ∃ (glq_4 : Nat), ((s_ = nI glq_4 ∧ glq_4 < 256) ∧ (∀ (r_5 : Int32), (r_5 = nI (cntA (mA glq_4) 8)) → ((¬ (¬ w0 < 1 ∧ ¬ 60 < w0) → ((-1000000002) : Int32).toInt = aPassed T Ns Np v x.toInt s_.toInt w0.toInt w1.toInt) ∧ (¬ w0 < 1 ∧ ¬ 60 < w0 → (¬ (¬ r_5 < 1 ∧ ¬ 6 < r_5) → ((-1000000002) : Int32).toInt = aPassed T Ns Np v x.toInt s_.toInt w0.toInt w1.toInt) ∧ (¬ r_5 < 1 ∧ ¬ 6 < r_5 → (¬ w1 < 0 ∧ ¬ r_5 < w1 → ∃ (gT_12 : Nat → Nat → Int) (gNs_13 : Nat) (gNp_14 : Nat) (gv_15 : Nat → Int) (gkk_16 : Nat → Int) (gM_17 : Int) (gib_18 : Nat) (gmq_19 : Nat) (gN0_20 : Nat) (glq_21 : Nat), ((TOK gT_12 gNs_13 gNp_14 ∧ CT gT_12 gNs_13 gNp_14 ns np fu fd fi sz_ pt kd nd ∧ CN gNs_13 gNp_14 gv_15 ht wm se cd sl od ow lo mi sd ∧ NOK gT_12 gNs_13 gNp_14 gkk_16 gM_17 gv_15 ∧ x = nI gib_18 ∧ gib_18 < gNs_13 ∧ w0 = nI gmq_19 ∧ gmq_19 ≤ 60 ∧ s_ = nI glq_21 ∧ glq_21 < 2 ^ gNp_14 ∧ cntA (mA glq_21) 8 = gN0_20 ∧ gN0_20 ≤ 6) ∧ (∀ (go2_23 : Nat → Int32) (gz2_24 : Nat → Int32) (gf2_25 : Nat → Int32) (gb2_26 : Int32) (sw2_27 : Int32) (sh2_28 : Int32) (gs2_29 : Int32) (gm2_30 : Int32), (PRel gN0_20 (dP gT_12 gv_15 gib_18 gmq_19 gN0_20 (mA glq_21) 0 (gv_15 gib_18) [] none) gf2_25 gb2_26 gz2_24) → (((if w1 = 0 then gb2_26 else if ¬ w1 - 1 < 0 ∧ ¬ 5 < w1 - 1 then gz2_24 (w1 - 1).toNatClampNeg else (-1000000002)) : Int32).toInt = aPassed T Ns Np v x.toInt s_.toInt w0.toInt w1.toInt)))) ∧ (¬ (¬ w1 < 0 ∧ ¬ r_5 < w1) → ((-1000000002) : Int32).toInt = aPassed T Ns Np v x.toInt s_.toInt w0.toInt w1.toInt))))))) ∧ (¬ (((s_).toUInt32 >>> ((np : Int32).toUInt32 &&& Int32.toUInt32 31)).toInt32 = 0) → ((-1000000001) : Int32).toInt = aPassed T Ns Np v x.toInt s_.toInt w0.toInt w1.toInt))) : MetI l yX7_passed wsX7_passed 13 331 G [.ref h0, .int x, .int s_, .int w0, .int w1] [(h0, .inr (7, [.ref e0, .ref t, .ref k, .ref n, .ref j, .ref i0, .int kp, .ref b0, .ref s0, .ref q, .ref g])), (t, .inr (6, [.int ns, .int np, .int fu, .int fd, .int fi, .ref t1, .ref t2, .ref t3, .ref t4, .ref t5, .ref t6])), aI G t1 9 sz_, aI G t2 9 pt, aI G t3 9 fh, aI G t4 8 kd, aI G t5 8 nd, aI G t6 8 fw, (n, .inr (1, [.ref n1, .ref n2, .ref n3, .ref n4, .ref n5, .ref n6, .ref n7, .int lo, .int mi, .int sd])), aI G n1 9 ht, aI G n2 8 wm, aI G n3 8 se, aI G n4 8 cd, aI G n5 8 sl, aI G n6 8 od, aI G n7 72 ow, (g, .inr (2, [.ref s2, .ref g1, .ref g2, .ref g3, .int gs, .int gm, .int gb])), aI G g1 6 go, aI G g2 6 gz, aI G g3 256 gf, (s2, .inr (4, [.int sw2, .int sh2]))] sz (fun (r : Int32) (u : (Nat → Int32) × (Nat → Int32) × (Nat → Int32) × (Int32) × (Int32) × (Int32) × (Int32) × (Int32)) => r.toInt = aPassed T Ns Np v x.toInt s_.toInt w0.toInt w1.toInt) (fun (u : (Nat → Int32) × (Nat → Int32) × (Nat → Int32) × (Int32) × (Int32) × (Int32) × (Int32) × (Int32)) => [(h0, .inr (7, [.ref e0, .ref t, .ref k, .ref n, .ref j, .ref i0, .int kp, .ref b0, .ref s0, .ref q, .ref g])), (t, .inr (6, [.int ns, .int np, .int fu, .int fd, .int fi, .ref t1, .ref t2, .ref t3, .ref t4, .ref t5, .ref t6])), aI G t1 9 sz_, aI G t2 9 pt, aI G t3 9 fh, aI G t4 8 kd, aI G t5 8 nd, aI G t6 8 fw, (n, .inr (1, [.ref n1, .ref n2, .ref n3, .ref n4, .ref n5, .ref n6, .ref n7, .int lo, .int mi, .int sd])), aI G n1 9 ht, aI G n2 8 wm, aI G n3 8 se, aI G n4 8 cd, aI G n5 8 sl, aI G n6 8 od, aI G n7 72 ow, (g, .inr (2, [.ref s2, .ref g1, .ref g2, .ref g3, .int u.2.2.2.2.1, .int u.2.2.2.2.2.1, .int u.2.2.2.1])), aI G g1 6 u.1, aI G g2 6 u.2.1, aI G g3 256 u.2.2.1, (s2, .inr (4, [.int u.2.2.2.2.2.2.1, .int u.2.2.2.2.2.2.2]))]) := by
  refine x_startI (cc := cX7_passed) (maxL := 6) (ret := (some .int)) (by decide) rfl (Nat.le_of_ble_eq_true rfl) ?_
  intro p e s m args below meth c A R Q ls hRf hRl hQ C hP hD hS hA hSS hl
  obtain ⟨hx, hb, hr, hml, hown, hts, hlocks, hKK⟩ := C
  have hown : s.vm.findClass RX7 = some m.cls := hown
  have hl : lv_has ls 6 [(0, .ref h0), (1, .int x), (2, .int s_), (3, .int w0), (4, .int w1)] := hl
  have hinX6 : ∀ w ∈ u_ws RX6 TX6 11, w ∈ wsX7_passed := by decide +kernel
  have hinX7 : ∀ w ∈ u_ws RX7 TX7 11, w ∈ wsX7_passed := by decide +kernel
  have kl106 := hts (.fieldLink RX7 106 "WarmStones$Town" "persons" "I") (by decide +kernel)
  have kl143 := hts (.constant RX7 143 (-1000000001)) (by decide +kernel)
  have kl19 := hts (.fieldLink RX7 19 "WarmStones" "town" "LWarmStones$Town;") (by decide +kernel)
  have kl29 := hts (.fieldLink RX7 29 "WarmStones" "night" "LWarmStones$Night;") (by decide +kernel)
  have kl64 := hts (.fieldLink RX7 64 "WarmStones" "passing" "LWarmStones$Passing;") (by decide +kernel)
  have kl72 := hts (.constant RX7 72 (-1000000002)) (by decide +kernel)
  refine lv_aload_n hx hb dX7_passed_0 rfl (lv_at hl 0 rfl) ?_
  refine va_get (D := G.1) (ci := 7) (v := .ref t) (C := RX7) (T := TX7) (N := 11) hx hb hts hinX7 hown hKK.1 hP 0 rfl rfl 1 (by decide) kl19 (fun _ h9 => h9) rfl dX7_passed_1 ?_
  refine lv_iload_n hx hb dX7_passed_4 rfl (lv_at hl 1 rfl) ?_
  refine x_calliR (x_runV (As := [.int x]) (rest := []) (n := 1) (C := RX6) (ci := 6) ⟨hx, hb, hml, hown, hts⟩ (k_X6_hasStone l G t t1 t2 t3 t4 t5 t6 _ ns np fu fd fi sz_ pt fh kd nd fw x) gX7_passed_X6_hasStone rfl (by decide +kernel) ⟨Nat.le_trans (Nat.le_of_ble_eq_true rfl) hRf, Nat.le_trans (Nat.le_of_ble_eq_true rfl) hRl⟩ hKK hSS hS hA hP hD [1, 2, 3, 4, 5, 6, 7] (by decide) rfl rfl rfl 1 rfl rfl hl.1 rfl (Nat.le_of_ble_eq_true rfl) dX7_passed_5) hP hD hS hA [1, 2, 3, 4, 5, 6, 7] rfl (fun r_1 _ H locs hw hP hS => ?_)
  replace hw := hw.symm; subst hw
  refine lv_if_eq (tgt := 23) hx hb dX7_passed_8 (by decide) (fun hc_2 => ?_) (fun hc_2 => ?_)
  · have hv := hv.1 (tv_eq.mp hc_2)
    refine lv_ldc (v := (-1000000001)) hx hb hown kl143 dX7_passed_23 ?_
    exact x_iret (v := (-1000000001)) (go, gz, gf, gb, gs, gm, sw2, sh2) hQ hx hb hr hlocks hS dX7_passed_25 hv hP hD
  · have hv := hv.2 (tv_eqn.mp hc_2)
    refine lv_iload_n hx hb dX7_passed_11 rfl (lv_at hl 2 rfl) ?_
    refine lv_aload_n hx hb dX7_passed_12 rfl (lv_at hl 0 rfl) ?_
    refine va_get (D := G.1) (ci := 7) (v := .ref t) (C := RX7) (T := TX7) (N := 11) hx hb hts hinX7 hown hKK.1 hP 0 rfl rfl 1 (by decide) kl19 (fun _ h9 => h9) rfl dX7_passed_13 ?_
    refine va_get (D := G.1) (ci := 6) (v := .int np) (C := RX6) (T := TX6) (N := 11) hx hb hts hinX6 hown hKK.1 hP 1 rfl rfl 1 (by decide) kl106 (fun _ h9 => h9) rfl dX7_passed_16 ?_
    refine lv_iushr hx hb dX7_passed_19 rfl ?_
    refine lv_if_eq (tgt := 26) hx hb dX7_passed_20 (by decide) (fun hc_3 => ?_) (fun hc_3 => ?_)
    · have hv := hv.1 hc_3
      refine lv_iload_n hx hb dX7_passed_26 rfl (lv_at hl 2 rfl) ?_
      obtain ⟨glq_4, hv⟩ := hv
      obtain ⟨hp, hv⟩ := hv
      refine x_calliR (x_runS (As := [.int s_]) (rest := []) (n := 1) ⟨hx, hb, hml, hown, hts⟩ (k_J6_bitCount_0f7a4 l G  _ s_ glq_4 hp) gX7_passed_J6_bitCount_0f7a4 rfl (by decide +kernel) ⟨Nat.le_trans (Nat.le_of_ble_eq_true rfl) hRf, Nat.le_trans (Nat.le_of_ble_eq_true rfl) hRl⟩ hKK hSS hS hA hP hD [] (by decide) rfl rfl hl.1 rfl (Nat.le_of_ble_eq_true rfl) dX7_passed_27) hP hD hS hA [] rfl (fun r_5 _ H locs hw hP hS => ?_)
      have hv := hv r_5 hw
      refine lv_istore (lv' := [(5, .int r_5), (0, .ref h0), (1, .int x), (2, .int s_), (3, .int w0), (4, .int w1)]) hx hb dX7_passed_30 hl (by decide) rfl (fun ls hl => ?_)
      refine lv_iload_n hx hb dX7_passed_32 rfl (lv_at hl 4 rfl) ?_
      refine lv_iconst (v := 1) hx hb dX7_passed_33 (by decide) ?_
      refine lv_bipush (v := 60) hx hb dX7_passed_34 (by decide) ?_
      refine x_calliR (x_runS (As := [.int w0, .int 1, .int 60]) (rest := []) (n := 3) ⟨hx, hb, hml, hown, hts⟩ (k_X7_within l G  _ w0 1 60) gX7_passed_X7_within rfl (by decide +kernel) ⟨Nat.le_trans (Nat.le_of_ble_eq_true rfl) hRf, Nat.le_trans (Nat.le_of_ble_eq_true rfl) hRl⟩ hKK hSS hS hA hP hD [] (by decide) rfl rfl hl.1 rfl (Nat.le_of_ble_eq_true rfl) dX7_passed_36) hP hD hS hA [] rfl (fun r_6 _ H locs hw hP hS => ?_)
      replace hw := hw.symm; subst hw
      refine lv_if_eq (tgt := 64) hx hb dX7_passed_39 (by decide) (fun hc_7 => ?_) (fun hc_7 => ?_)
      · have hv := hv.1 (tv_eq.mp hc_7)
        refine lv_ldc (v := (-1000000002)) hx hb hown kl72 dX7_passed_64 ?_
        exact x_iret (v := (-1000000002)) (go, gz, gf, gb, gs, gm, sw2, sh2) hQ hx hb hr hlocks hS dX7_passed_66 hv hP hD
      · have hv := hv.2 (tv_eqn.mp hc_7)
        refine lv_iload hx hb dX7_passed_42 (lv_at hl 0 rfl) ?_
        refine lv_iconst (v := 1) hx hb dX7_passed_44 (by decide) ?_
        refine lv_bipush (v := 6) hx hb dX7_passed_45 (by decide) ?_
        refine x_calliR (x_runS (As := [.int r_5, .int 1, .int 6]) (rest := []) (n := 3) ⟨hx, hb, hml, hown, hts⟩ (k_X7_within l G  _ r_5 1 6) gX7_passed_X7_within rfl (by decide +kernel) ⟨Nat.le_trans (Nat.le_of_ble_eq_true rfl) hRf, Nat.le_trans (Nat.le_of_ble_eq_true rfl) hRl⟩ hKK hSS hS hA hP hD [] (by decide) rfl rfl hl.1 rfl (Nat.le_of_ble_eq_true rfl) dX7_passed_47) hP hD hS hA [] rfl (fun r_8 _ H locs hw hP hS => ?_)
        replace hw := hw.symm; subst hw
        refine lv_if_eq (tgt := 64) hx hb dX7_passed_50 (by decide) (fun hc_9 => ?_) (fun hc_9 => ?_)
        · have hv := hv.1 (tv_eq.mp hc_9)
          refine lv_ldc (v := (-1000000002)) hx hb hown kl72 dX7_passed_64 ?_
          exact x_iret (v := (-1000000002)) (go, gz, gf, gb, gs, gm, sw2, sh2) hQ hx hb hr hlocks hS dX7_passed_66 hv hP hD
        · have hv := hv.2 (tv_eqn.mp hc_9)
          refine lv_iload hx hb dX7_passed_53 (lv_at hl 5 rfl) ?_
          refine lv_iconst (v := 0) hx hb dX7_passed_55 (by decide) ?_
          refine lv_iload hx hb dX7_passed_56 (lv_at hl 0 rfl) ?_
          refine x_calliR (x_runS (As := [.int w1, .int 0, .int r_5]) (rest := []) (n := 3) ⟨hx, hb, hml, hown, hts⟩ (k_X7_within l G  _ w1 0 r_5) gX7_passed_X7_within rfl (by decide +kernel) ⟨Nat.le_trans (Nat.le_of_ble_eq_true rfl) hRf, Nat.le_trans (Nat.le_of_ble_eq_true rfl) hRl⟩ hKK hSS hS hA hP hD [] (by decide) rfl rfl hl.1 rfl (Nat.le_of_ble_eq_true rfl) dX7_passed_58) hP hD hS hA [] rfl (fun r_10 _ H locs hw hP hS => ?_)
          replace hw := hw.symm; subst hw
          refine lv_if_ne (tgt := 67) hx hb dX7_passed_61 (by decide) (fun hc_11 => ?_) (fun hc_11 => ?_)
          · have hv := hv.1 (tv_eqn.mp hc_11)
            refine lv_aload_n hx hb dX7_passed_67 rfl (lv_at hl 1 rfl) ?_
            refine va_get (D := G.1) (ci := 7) (v := .ref g) (C := RX7) (T := TX7) (N := 11) hx hb hts hinX7 hown hKK.1 hP 0 rfl rfl 10 (by decide) kl64 (fun _ h9 => h9) rfl dX7_passed_68 ?_
            refine lv_aload_n hx hb dX7_passed_71 rfl (lv_at hl 1 rfl) ?_
            refine va_get (D := G.1) (ci := 7) (v := .ref t) (C := RX7) (T := TX7) (N := 11) hx hb hts hinX7 hown hKK.1 hP 0 rfl rfl 1 (by decide) kl19 (fun _ h9 => h9) rfl dX7_passed_72 ?_
            refine lv_aload_n hx hb dX7_passed_75 rfl (lv_at hl 1 rfl) ?_
            refine va_get (D := G.1) (ci := 7) (v := .ref n) (C := RX7) (T := TX7) (N := 11) hx hb hts hinX7 hown hKK.1 hP 0 rfl rfl 3 (by decide) kl29 (fun _ h9 => h9) rfl dX7_passed_76 ?_
            refine lv_iload_n hx hb dX7_passed_79 rfl (lv_at hl 2 rfl) ?_
            refine lv_iload_n hx hb dX7_passed_80 rfl (lv_at hl 3 rfl) ?_
            refine lv_iload_n hx hb dX7_passed_81 rfl (lv_at hl 4 rfl) ?_
            obtain ⟨gT_12, gNs_13, gNp_14, gv_15, gkk_16, gM_17, gib_18, gmq_19, gN0_20, glq_21, hv⟩ := hv
            obtain ⟨hp, hv⟩ := hv
            refine x_callv (wr := [(h0, .inr (7, [.ref e0, .ref t, .ref k, .ref n, .ref j, .ref i0, .int kp, .ref b0, .ref s0, .ref q, .ref g]))]) (w' := fun (u : (Nat → Int32) × (Nat → Int32) × (Nat → Int32) × (Int32) × (Int32) × (Int32) × (Int32) × (Int32)) => [(h0, .inr (7, [.ref e0, .ref t, .ref k, .ref n, .ref j, .ref i0, .int kp, .ref b0, .ref s0, .ref q, .ref g])), (t, .inr (6, [.int ns, .int np, .int fu, .int fd, .int fi, .ref t1, .ref t2, .ref t3, .ref t4, .ref t5, .ref t6])), aI G t1 9 sz_, aI G t2 9 pt, aI G t3 9 fh, aI G t4 8 kd, aI G t5 8 nd, aI G t6 8 fw, (n, .inr (1, [.ref n1, .ref n2, .ref n3, .ref n4, .ref n5, .ref n6, .ref n7, .int lo, .int mi, .int sd])), aI G n1 9 ht, aI G n2 8 wm, aI G n3 8 se, aI G n4 8 cd, aI G n5 8 sl, aI G n6 8 od, aI G n7 72 ow, (g, .inr (2, [.ref s2, .ref g1, .ref g2, .ref g3, .int u.2.2.2.2.2.2.1, .int u.2.2.2.2.2.2.2, .int u.2.2.2.1])), aI G g1 6 u.1, aI G g2 6 u.2.1, aI G g3 256 u.2.2.1, (s2, .inr (4, [.int u.2.2.2.2.1, .int u.2.2.2.2.2.1]))]) (x_runV (As := [.ref t, .ref n, .int x, .int s_, .int w0]) (rest := []) (n := 5) (C := RX2) (ci := 2) ⟨hx, hb, hml, hown, hts⟩ (k_X2_search l G g g1 g2 g3 s2 t t1 t2 t3 t4 t5 t6 n n1 n2 n3 n4 n5 n6 n7 _ gs gm gb go gz gf sw2 sh2 ns np fu fd fi sz_ pt fh kd nd fw ht wm se cd sl od ow lo mi sd x s_ w0 gT_12 gNs_13 gNp_14 gv_15 gkk_16 gM_17 gib_18 gmq_19 gN0_20 glq_21 hp) gX7_passed_X2_search rfl (by decide +kernel) ⟨Nat.le_trans (Nat.le_of_ble_eq_true rfl) hRf, Nat.le_trans (Nat.le_of_ble_eq_true rfl) hRl⟩ hKK hSS hS hA hP hD [16, 17, 18, 19, 20, 1, 2, 3, 4, 5, 6, 7, 8, 9, 10, 11, 12, 13, 14, 15] (by decide) rfl rfl rfl 16 rfl rfl hl.1 rfl (Nat.le_of_ble_eq_true rfl) dX7_passed_82) hP hD hS hA [16, 17, 18, 19, 20, 1, 2, 3, 4, 5, 6, 7, 8, 9, 10, 11, 12, 13, 14, 15] [0] [0, 6, 7, 8, 9, 10, 11, 12, 13, 14, 15, 16, 17, 18, 19, 20, 1, 2, 3, 4, 5] rfl rfl (by decide) (by decide) (by decide) (fun _ => rfl) (fun  u H locs hw hP hD hS => ?_)
            obtain ⟨go2_23, gz2_24, gf2_25, gb2_26, sw2_27, sh2_28, gs2_29, gm2_30⟩ := u
            have hP : va_P G.1 vwCl [(h0, .inr (7, [.ref e0, .ref t, .ref k, .ref n, .ref j, .ref i0, .int kp, .ref b0, .ref s0, .ref q, .ref g])), (t, .inr (6, [.int ns, .int np, .int fu, .int fd, .int fi, .ref t1, .ref t2, .ref t3, .ref t4, .ref t5, .ref t6])), aI G t1 9 sz_, aI G t2 9 pt, aI G t3 9 fh, aI G t4 8 kd, aI G t5 8 nd, aI G t6 8 fw, (n, .inr (1, [.ref n1, .ref n2, .ref n3, .ref n4, .ref n5, .ref n6, .ref n7, .int lo, .int mi, .int sd])), aI G n1 9 ht, aI G n2 8 wm, aI G n3 8 se, aI G n4 8 cd, aI G n5 8 sl, aI G n6 8 od, aI G n7 72 ow, (g, .inr (2, [.ref s2, .ref g1, .ref g2, .ref g3, .int gs2_29, .int gm2_30, .int gb2_26])), aI G g1 6 go2_23, aI G g2 6 gz2_24, aI G g3 256 gf2_25, (s2, .inr (4, [.int sw2_27, .int sh2_28]))] H := hP
            have hD : va_D A [(h0, .inr (7, [.ref e0, .ref t, .ref k, .ref n, .ref j, .ref i0, .int kp, .ref b0, .ref s0, .ref q, .ref g])), (t, .inr (6, [.int ns, .int np, .int fu, .int fd, .int fi, .ref t1, .ref t2, .ref t3, .ref t4, .ref t5, .ref t6])), aI G t1 9 sz_, aI G t2 9 pt, aI G t3 9 fh, aI G t4 8 kd, aI G t5 8 nd, aI G t6 8 fw, (n, .inr (1, [.ref n1, .ref n2, .ref n3, .ref n4, .ref n5, .ref n6, .ref n7, .int lo, .int mi, .int sd])), aI G n1 9 ht, aI G n2 8 wm, aI G n3 8 se, aI G n4 8 cd, aI G n5 8 sl, aI G n6 8 od, aI G n7 72 ow, (g, .inr (2, [.ref s2, .ref g1, .ref g2, .ref g3, .int gs2_29, .int gm2_30, .int gb2_26])), aI G g1 6 go2_23, aI G g2 6 gz2_24, aI G g3 256 gf2_25, (s2, .inr (4, [.int sw2_27, .int sh2_28]))] := hD
            have hv := hv go2_23 gz2_24 gf2_25 gb2_26 sw2_27 sh2_28 gs2_29 gm2_30 hw
            refine lv_aload_n hx hb dX7_passed_85 rfl (lv_at hl 1 rfl) ?_
            refine va_get (D := G.1) (ci := 7) (v := .ref g) (C := RX7) (T := TX7) (N := 11) hx hb hts hinX7 hown hKK.1 hP 0 rfl rfl 10 (by decide) kl64 (fun _ h9 => h9) rfl dX7_passed_86 ?_
            refine lv_iload hx hb dX7_passed_89 (lv_at hl 5 rfl) ?_
            refine x_calliR (x_runV (As := [.int w1]) (rest := []) (n := 1) (C := RX2) (ci := 2) ⟨hx, hb, hml, hown, hts⟩ (k_X2_answer l G g g1 g2 g3 _ s2 gs2_29 gm2_30 gb2_26 go2_23 gz2_24 gf2_25 w1) gX7_passed_X2_answer rfl (by decide +kernel) ⟨Nat.le_trans (Nat.le_of_ble_eq_true rfl) hRf, Nat.le_trans (Nat.le_of_ble_eq_true rfl) hRl⟩ hKK hSS hS hA hP hD [16, 17, 18, 19] (by decide) rfl rfl rfl 16 rfl rfl hl.1 rfl (Nat.le_of_ble_eq_true rfl) dX7_passed_91) hP hD hS hA [16, 17, 18, 19] rfl (fun r_31 _ H locs hw hP hS => ?_)
            replace hw := hw.symm; subst hw
            exact x_iret (v := (if w1 = 0 then gb2_26 else if ¬ w1 - 1 < 0 ∧ ¬ 5 < w1 - 1 then gz2_24 (w1 - 1).toNatClampNeg else (-1000000002))) (go2_23, gz2_24, gf2_25, gb2_26, gs2_29, gm2_30, sw2_27, sh2_28) hQ hx hb hr hlocks hS dX7_passed_94 hv hP hD
          · have hv := hv.2 (tv_eq.mp hc_11)
            refine lv_ldc (v := (-1000000002)) hx hb hown kl72 dX7_passed_64 ?_
            exact x_iret (v := (-1000000002)) (go, gz, gf, gb, gs, gm, sw2, sh2) hQ hx hb hr hlocks hS dX7_passed_66 hv hP hD
    · have hv := hv.2 hc_3
      refine lv_ldc (v := (-1000000001)) hx hb hown kl143 dX7_passed_23 ?_
      exact x_iret (v := (-1000000001)) (go, gz, gf, gb, gs, gm, sw2, sh2) hQ hx hb hr hlocks hS dX7_passed_25 hv hP hD
theorem v_X7_passed (l : Launch) (G : Gt) (h0 t t1 t2 t3 t4 t5 t6 n n1 n2 n3 n4 n5 n6 n7 g g1 g2 g3 s2 : Nat) (sz : Nat) (e0 : Nat) (k : Nat) (j : Nat) (i0 : Nat) (b0 : Nat) (s0 : Nat) (q : Nat) (kp : Int32) (ns : Int32) (np : Int32) (fu : Int32) (fd : Int32) (fi : Int32) (sz_ : Nat → Int32) (pt : Nat → Int32) (fh : Nat → Int32) (kd : Nat → Int32) (nd : Nat → Int32) (fw : Nat → Int32) (ht : Nat → Int32) (wm : Nat → Int32) (se : Nat → Int32) (cd : Nat → Int32) (sl : Nat → Int32) (od : Nat → Int32) (ow : Nat → Int32) (lo : Int32) (mi : Int32) (sd : Int32) (gs : Int32) (gm : Int32) (gb : Int32) (go : Nat → Int32) (gz : Nat → Int32) (gf : Nat → Int32) (sw2 : Int32) (sh2 : Int32) (x : Int32) (s_ : Int32) (w0 : Int32) (w1 : Int32) (T : Nat → Nat → Int) (Ns : Nat) (Np : Nat) (v : Nat → Int) (M : Int) (hp : TOK T Ns Np ∧ CT T Ns Np ns np fu fd fi sz_ pt kd nd ∧ CN Ns Np v ht wm se cd sl od ow lo mi sd ∧ NOK T Ns Np (fun _ => 2 * M) M v ∧ M ≤ 900000) : (¬ (¬ x < 0 ∧ ¬ ns ≤ x) → ((-1000000001) : Int32).toInt = aPassed T Ns Np v x.toInt s_.toInt w0.toInt w1.toInt) ∧ (¬ x < 0 ∧ ¬ ns ≤ x → (((s_).toUInt32 >>> ((np : Int32).toUInt32 &&& Int32.toUInt32 31)).toInt32 = 0 → ∃ (glq_4 : Nat), ((s_ = nI glq_4 ∧ glq_4 < 256) ∧ (∀ (r_5 : Int32), (r_5 = nI (cntA (mA glq_4) 8)) → ((¬ (¬ w0 < 1 ∧ ¬ 60 < w0) → ((-1000000002) : Int32).toInt = aPassed T Ns Np v x.toInt s_.toInt w0.toInt w1.toInt) ∧ (¬ w0 < 1 ∧ ¬ 60 < w0 → (¬ (¬ r_5 < 1 ∧ ¬ 6 < r_5) → ((-1000000002) : Int32).toInt = aPassed T Ns Np v x.toInt s_.toInt w0.toInt w1.toInt) ∧ (¬ r_5 < 1 ∧ ¬ 6 < r_5 → (¬ w1 < 0 ∧ ¬ r_5 < w1 → ∃ (gT_12 : Nat → Nat → Int) (gNs_13 : Nat) (gNp_14 : Nat) (gv_15 : Nat → Int) (gkk_16 : Nat → Int) (gM_17 : Int) (gib_18 : Nat) (gmq_19 : Nat) (gN0_20 : Nat) (glq_21 : Nat), ((TOK gT_12 gNs_13 gNp_14 ∧ CT gT_12 gNs_13 gNp_14 ns np fu fd fi sz_ pt kd nd ∧ CN gNs_13 gNp_14 gv_15 ht wm se cd sl od ow lo mi sd ∧ NOK gT_12 gNs_13 gNp_14 gkk_16 gM_17 gv_15 ∧ x = nI gib_18 ∧ gib_18 < gNs_13 ∧ w0 = nI gmq_19 ∧ gmq_19 ≤ 60 ∧ s_ = nI glq_21 ∧ glq_21 < 2 ^ gNp_14 ∧ cntA (mA glq_21) 8 = gN0_20 ∧ gN0_20 ≤ 6) ∧ (∀ (go2_23 : Nat → Int32) (gz2_24 : Nat → Int32) (gf2_25 : Nat → Int32) (gb2_26 : Int32) (sw2_27 : Int32) (sh2_28 : Int32) (gs2_29 : Int32) (gm2_30 : Int32), (PRel gN0_20 (dP gT_12 gv_15 gib_18 gmq_19 gN0_20 (mA glq_21) 0 (gv_15 gib_18) [] none) gf2_25 gb2_26 gz2_24) → (((if w1 = 0 then gb2_26 else if ¬ w1 - 1 < 0 ∧ ¬ 5 < w1 - 1 then gz2_24 (w1 - 1).toNatClampNeg else (-1000000002)) : Int32).toInt = aPassed T Ns Np v x.toInt s_.toInt w0.toInt w1.toInt)))) ∧ (¬ (¬ w1 < 0 ∧ ¬ r_5 < w1) → ((-1000000002) : Int32).toInt = aPassed T Ns Np v x.toInt s_.toInt w0.toInt w1.toInt))))))) ∧ (¬ (((s_).toUInt32 >>> ((np : Int32).toUInt32 &&& Int32.toUInt32 31)).toInt32 = 0) → ((-1000000001) : Int32).toInt = aPassed T Ns Np v x.toInt s_.toInt w0.toInt w1.toInt)) := by
  obtain ⟨hT, hC, hN, hO, hM⟩ := hp
  have t1 := hT.1
  have t2 := hT.2.1
  have hns : ns = nI Ns := hC.1
  have hnp : np = nI Np := hC.2.1
  have hs_ := hs_iff (x := x) hns (by omega)
  have hw_ : (¬ w0 < 1 ∧ ¬ 60 < w0) ↔ (1 ≤ w0.toInt ∧ w0.toInt ≤ 60) := wi_iff rfl rfl
  have hu_ := ush_iff s_ t2
  simp only [hs_, hw_, hnp, hu_]
  refine ⟨fun h => by rw [aPassed, if_pos (Or.inl h)]; rfl, fun hx => ⟨fun hset => ?_, fun h => by rw [aPassed, if_pos (Or.inr h)]; rfl⟩⟩
  have hp8 := pow8 t2
  obtain ⟨b, hb, rfl, hxi, hxt⟩ := in_nat hx (by omega)
  obtain ⟨s, hs, rfl, hsi, hst⟩ := in_nat (x := s_) (n := 256) (by omega) (by omega)
  have hs2 := hset.2
  rw [hst] at hs2
  refine ⟨s, ⟨rfl, hs⟩, fun r hr => ?_⟩
  subst hr
  have hn8 := cntA_le (A := mA s) 8
  have hset' : ¬ (¬ (0 ≤ (nI b).toInt ∧ (nI b).toInt < Ns) ∨ ¬ (0 ≤ (nI s).toInt ∧ (nI s).toInt.toNat < 2 ^ Np)) := fun z => z.elim (fun q => q hx) (fun q => q hset)
  have eA : aPassed T Ns Np v (nI b).toInt (nI s).toInt w0.toInt w1.toInt = if ¬ (1 ≤ w0.toInt ∧ w0.toInt ≤ 60) ∨ ¬ (1 ≤ cntA (mA s) 8 ∧ cntA (mA s) 8 ≤ 6) ∨ ¬ (0 ≤ w1.toInt ∧ w1.toInt ≤ cntA (mA s) 8) then -1000000002 else ansP (dP T v b w0.toInt.toNat (cntA (mA s) 8) (mA s) 0 (v b) [] none) w1.toInt := by
    rw [aPassed, if_neg hset', hst, hxt]
  rw [eA]
  generalize hn : cntA (mA s) 8 = n at hn8
  have hr_ : (¬ nI n < 1 ∧ ¬ 6 < nI n) ↔ (1 ≤ n ∧ n ≤ 6) := by
    rw [wi_iff (x := nI n) (y := 1) (z := 6) (a := 1) (b := 6) rfl rfl, nI_toInt (by omega)]; omega
  have hw1_ : (¬ w1 < 0 ∧ ¬ nI n < w1) ↔ (0 ≤ w1.toInt ∧ w1.toInt ≤ n) := wi_iff rfl (nI_toInt (by omega))
  simp only [hr_, hw1_]
  refine ⟨fun h => by rw [if_pos (Or.inl h)]; rfl, fun hm => ⟨fun h => by rw [if_pos (Or.inr (Or.inl h))]; rfl, fun hn6 => ⟨fun hw => ?_, fun h => by rw [if_pos (Or.inr (Or.inr h))]; rfl⟩⟩⟩
  rw [if_neg (fun z => z.elim (fun q => q hm) (fun z => z.elim (fun q => q hn6) (fun q => q hw)))]
  obtain ⟨m, hm6, rfl, hmi, hmt⟩ := in_nat (x := w0) (n := 61) (by omega) (by omega)
  rw [hmt]
  refine ⟨T, Ns, Np, v, _, M, b, m, n, s, ⟨hT, by rw [← hnp]; exact hC, hN, hO, rfl, hb, rfl, by omega, rfl, hs2, hn, hn6.2⟩, fun go2 gz2 gf2 gb2 _ _ _ _ hP => ?_⟩
  have hsome : dP T v b m n (mA s) 0 (v b) [] none ≠ none := pF_some (fac_pos n)
  cases hd : dP T v b m n (mA s) 0 (v b) [] none with
  | none => exact absurd hd hsome
  | some t =>
    obtain ⟨a, r⟩ := t
    rw [hd] at hP
    obtain ⟨p1, p2, p3, p4⟩ := hP
    have y0_ : w1 = 0 ↔ w1.toInt = 0 := i_eq rfl rfl
    unfold ansP
    dsimp only
    by_cases q0 : w1.toInt = 0
    · rw [if_pos q0, if_pos (y0_.mpr q0)]; exact p2
    · have e2 : (w1 - 1).toInt = w1.toInt - 1 := i_sub rfl i32_1 (by omega) (by omega)
      rw [if_neg q0, if_neg (fun z => q0 (y0_.mp z)), if_pos ((wi_iff (x := w1 - 1) (y := 0) (z := 5) (a := 0) (b := 5) rfl rfl).mpr (by omega)), cl_of (x := w1 - 1) (n := (w1.toInt - 1).toNat) (by omega), p4 _ (by omega)]
theorem k_X7_passed (l : Launch) (G : Gt) (h0 t t1 t2 t3 t4 t5 t6 n n1 n2 n3 n4 n5 n6 n7 g g1 g2 g3 s2 : Nat) (sz : Nat) (e0 : Nat) (k : Nat) (j : Nat) (i0 : Nat) (b0 : Nat) (s0 : Nat) (q : Nat) (kp : Int32) (ns : Int32) (np : Int32) (fu : Int32) (fd : Int32) (fi : Int32) (sz_ : Nat → Int32) (pt : Nat → Int32) (fh : Nat → Int32) (kd : Nat → Int32) (nd : Nat → Int32) (fw : Nat → Int32) (ht : Nat → Int32) (wm : Nat → Int32) (se : Nat → Int32) (cd : Nat → Int32) (sl : Nat → Int32) (od : Nat → Int32) (ow : Nat → Int32) (lo : Int32) (mi : Int32) (sd : Int32) (gs : Int32) (gm : Int32) (gb : Int32) (go : Nat → Int32) (gz : Nat → Int32) (gf : Nat → Int32) (sw2 : Int32) (sh2 : Int32) (x : Int32) (s_ : Int32) (w0 : Int32) (w1 : Int32) (T : Nat → Nat → Int) (Ns : Nat) (Np : Nat) (v : Nat → Int) (M : Int) (hp : TOK T Ns Np ∧ CT T Ns Np ns np fu fd fi sz_ pt kd nd ∧ CN Ns Np v ht wm se cd sl od ow lo mi sd ∧ NOK T Ns Np (fun _ => 2 * M) M v ∧ M ≤ 900000) : MetI l yX7_passed wsX7_passed 13 331 G [.ref h0, .int x, .int s_, .int w0, .int w1] [(h0, .inr (7, [.ref e0, .ref t, .ref k, .ref n, .ref j, .ref i0, .int kp, .ref b0, .ref s0, .ref q, .ref g])), (t, .inr (6, [.int ns, .int np, .int fu, .int fd, .int fi, .ref t1, .ref t2, .ref t3, .ref t4, .ref t5, .ref t6])), aI G t1 9 sz_, aI G t2 9 pt, aI G t3 9 fh, aI G t4 8 kd, aI G t5 8 nd, aI G t6 8 fw, (n, .inr (1, [.ref n1, .ref n2, .ref n3, .ref n4, .ref n5, .ref n6, .ref n7, .int lo, .int mi, .int sd])), aI G n1 9 ht, aI G n2 8 wm, aI G n3 8 se, aI G n4 8 cd, aI G n5 8 sl, aI G n6 8 od, aI G n7 72 ow, (g, .inr (2, [.ref s2, .ref g1, .ref g2, .ref g3, .int gs, .int gm, .int gb])), aI G g1 6 go, aI G g2 6 gz, aI G g3 256 gf, (s2, .inr (4, [.int sw2, .int sh2]))] sz (fun (r : Int32) (u : (Nat → Int32) × (Nat → Int32) × (Nat → Int32) × (Int32) × (Int32) × (Int32) × (Int32) × (Int32)) => r.toInt = aPassed T Ns Np v x.toInt s_.toInt w0.toInt w1.toInt) (fun (u : (Nat → Int32) × (Nat → Int32) × (Nat → Int32) × (Int32) × (Int32) × (Int32) × (Int32) × (Int32)) => [(h0, .inr (7, [.ref e0, .ref t, .ref k, .ref n, .ref j, .ref i0, .int kp, .ref b0, .ref s0, .ref q, .ref g])), (t, .inr (6, [.int ns, .int np, .int fu, .int fd, .int fi, .ref t1, .ref t2, .ref t3, .ref t4, .ref t5, .ref t6])), aI G t1 9 sz_, aI G t2 9 pt, aI G t3 9 fh, aI G t4 8 kd, aI G t5 8 nd, aI G t6 8 fw, (n, .inr (1, [.ref n1, .ref n2, .ref n3, .ref n4, .ref n5, .ref n6, .ref n7, .int lo, .int mi, .int sd])), aI G n1 9 ht, aI G n2 8 wm, aI G n3 8 se, aI G n4 8 cd, aI G n5 8 sl, aI G n6 8 od, aI G n7 72 ow, (g, .inr (2, [.ref s2, .ref g1, .ref g2, .ref g3, .int u.2.2.2.2.1, .int u.2.2.2.2.2.1, .int u.2.2.2.1])), aI G g1 6 u.1, aI G g2 6 u.2.1, aI G g3 256 u.2.2.1, (s2, .inr (4, [.int u.2.2.2.2.2.2.1, .int u.2.2.2.2.2.2.2]))]) :=
  c_X7_passed l G h0 t t1 t2 t3 t4 t5 t6 n n1 n2 n3 n4 n5 n6 n7 g g1 g2 g3 s2 sz e0 k j i0 b0 s0 q kp ns np fu fd fi sz_ pt fh kd nd fw ht wm se cd sl od ow lo mi sd gs gm gb go gz gf sw2 sh2 x s_ w0 w1 T Ns Np v M (v_X7_passed l G h0 t t1 t2 t3 t4 t5 t6 n n1 n2 n3 n4 n5 n6 n7 g g1 g2 g3 s2 sz e0 k j i0 b0 s0 q kp ns np fu fd fi sz_ pt fh kd nd fw ht wm se cd sl od ow lo mi sd gs gm gb go gz gf sw2 sh2 x s_ w0 w1 T Ns Np v M hp)

set_option maxHeartbeats 4000000 in
set_option maxRecDepth 100000 in
theorem c_X7_giftOf (l : Launch) (G : Gt) (h0 t t1 t2 t3 t4 t5 t6 n n1 n2 n3 n4 n5 n6 n7 : Nat) (sz : Nat) (e0 : Nat) (k : Nat) (j : Nat) (i0 : Nat) (b0 : Nat) (s0 : Nat) (q : Nat) (g : Nat) (kp : Int32) (ns : Int32) (np : Int32) (fu : Int32) (fd : Int32) (fi : Int32) (sz_ : Nat → Int32) (pt : Nat → Int32) (fh : Nat → Int32) (kd : Nat → Int32) (nd : Nat → Int32) (fw : Nat → Int32) (ht : Nat → Int32) (wm : Nat → Int32) (se : Nat → Int32) (cd : Nat → Int32) (sl : Nat → Int32) (od : Nat → Int32) (ow : Nat → Int32) (lo : Int32) (mi : Int32) (sd : Int32) (x : Int32) (y : Int32) (T : Nat → Nat → Int) (Ns : Nat) (Np : Nat) (v : Nat → Int) (M : Int) (ip : Nat) (hv : (vp_in x 8) ∧ ((¬ (nd x.toNatClampNeg) = 0 → (vp_in x 8) ∧ ((vp_in x 8) ∧ ((vp_in x 8) ∧ (((if 0 < (((wm x.toNatClampNeg) - (nd x.toNatClampNeg)) - (y * (frostI (kd x.toNatClampNeg) fu fd 0))) then (((wm x.toNatClampNeg) - (nd x.toNatClampNeg)) - (y * (frostI (kd x.toNatClampNeg) fu fd 0))) else 0) : Int32).toInt = maxZ 0 (v (10 + ip) - (if T 3 ip = 0 then 0 else T 3 ip + y.toInt * frostZ (T 2 ip) (T 4 0) (T 4 1) false)))))) ∧ ((nd x.toNatClampNeg) = 0 → (vp_in x 8) ∧ ((wm x.toNatClampNeg).toInt = maxZ 0 (v (10 + ip) - (if T 3 ip = 0 then 0 else T 3 ip + y.toInt * frostZ (T 2 ip) (T 4 0) (T 4 1) false)))))) : MetI l yX7_giftOf wsX7_giftOf 1 22 G [.ref h0, .int x, .int y] [(h0, .inr (7, [.ref e0, .ref t, .ref k, .ref n, .ref j, .ref i0, .int kp, .ref b0, .ref s0, .ref q, .ref g])), (t, .inr (6, [.int ns, .int np, .int fu, .int fd, .int fi, .ref t1, .ref t2, .ref t3, .ref t4, .ref t5, .ref t6])), aI G t1 9 sz_, aI G t2 9 pt, aI G t3 9 fh, aI G t4 8 kd, aI G t5 8 nd, aI G t6 8 fw, (n, .inr (1, [.ref n1, .ref n2, .ref n3, .ref n4, .ref n5, .ref n6, .ref n7, .int lo, .int mi, .int sd])), aI G n1 9 ht, aI G n2 8 wm, aI G n3 8 se, aI G n4 8 cd, aI G n5 8 sl, aI G n6 8 od, aI G n7 72 ow] sz (fun (r : Int32) (_ : Unit) => r.toInt = maxZ 0 (v (10 + ip) - (if T 3 ip = 0 then 0 else T 3 ip + y.toInt * frostZ (T 2 ip) (T 4 0) (T 4 1) false))) (fun (_ : Unit) => [(h0, .inr (7, [.ref e0, .ref t, .ref k, .ref n, .ref j, .ref i0, .int kp, .ref b0, .ref s0, .ref q, .ref g])), (t, .inr (6, [.int ns, .int np, .int fu, .int fd, .int fi, .ref t1, .ref t2, .ref t3, .ref t4, .ref t5, .ref t6])), aI G t1 9 sz_, aI G t2 9 pt, aI G t3 9 fh, aI G t4 8 kd, aI G t5 8 nd, aI G t6 8 fw, (n, .inr (1, [.ref n1, .ref n2, .ref n3, .ref n4, .ref n5, .ref n6, .ref n7, .int lo, .int mi, .int sd])), aI G n1 9 ht, aI G n2 8 wm, aI G n3 8 se, aI G n4 8 cd, aI G n5 8 sl, aI G n6 8 od, aI G n7 72 ow]) := by
  refine x_startI (cc := cX7_giftOf) (maxL := 3) (ret := (some .int)) (by decide) rfl (Nat.le_of_ble_eq_true rfl) ?_
  intro p e s m args below meth c A R Q ls hRf hRl hQ C hP hD hS hA hSS hl
  obtain ⟨hx, hb, hr, hml, hown, hts, hlocks, hKK⟩ := C
  have hown : s.vm.findClass RX7 = some m.cls := hown
  have hl : lv_has ls 3 [(0, .ref h0), (1, .int x), (2, .int y)] := hl
  have hinX1 : ∀ w ∈ u_ws RX1 TX1 10, w ∈ wsX7_giftOf := by decide +kernel
  have hinX6 : ∀ w ∈ u_ws RX6 TX6 11, w ∈ wsX7_giftOf := by decide +kernel
  have hinX7 : ∀ w ∈ u_ws RX7 TX7 11, w ∈ wsX7_giftOf := by decide +kernel
  have kl135 := hts (.fieldLink RX7 135 "WarmStones$Night" "warmth" "[I") (by decide +kernel)
  have kl160 := hts (.fieldLink RX7 160 "WarmStones$Town" "need" "[I") (by decide +kernel)
  have kl19 := hts (.fieldLink RX7 19 "WarmStones" "town" "LWarmStones$Town;") (by decide +kernel)
  have kl243 := hts (.methodLink RX7 243 Lib.Math.max.name) (by decide +kernel)
  have kl29 := hts (.fieldLink RX7 29 "WarmStones" "night" "LWarmStones$Night;") (by decide +kernel)
  have km_c_max := hts (.code Lib.Math.max.name Lib.Math.max.code 2 (some .int)) (by decide +kernel)
  have km_i := hts (.initialized "java/lang/Math") (by decide +kernel)
  have km_s_max := hts (.static Lib.Math.max.name) (by decide +kernel)
  refine lv_aload_n hx hb dX7_giftOf_0 rfl (lv_at hl 0 rfl) ?_
  refine va_get (D := G.1) (ci := 7) (v := .ref t) (C := RX7) (T := TX7) (N := 11) hx hb hts hinX7 hown hKK.1 hP 0 rfl rfl 1 (by decide) kl19 (fun _ h9 => h9) rfl dX7_giftOf_1 ?_
  refine va_get (D := G.1) (ci := 6) (v := .ref t5) (C := RX6) (T := TX6) (N := 11) hx hb hts hinX6 hown hKK.1 hP 1 rfl rfl 9 (by decide) kl160 (fun _ h9 => h9) rfl dX7_giftOf_4 ?_
  refine lv_iload_n hx hb dX7_giftOf_7 rfl (lv_at hl 1 rfl) ?_
  obtain ⟨hin, hv⟩ := hv
  refine va_iald hx hb hKK.1 hP 6 0 rfl rfl hin dX7_giftOf_8 ?_
  refine lv_if_ne (tgt := 22) hx hb dX7_giftOf_9 (by decide) (fun hc_1 => ?_) (fun hc_1 => ?_)
  · have hv := hv.1 hc_1
    refine lv_iconst (v := 0) hx hb dX7_giftOf_22 (by decide) ?_
    refine lv_aload_n hx hb dX7_giftOf_23 rfl (lv_at hl 0 rfl) ?_
    refine va_get (D := G.1) (ci := 7) (v := .ref n) (C := RX7) (T := TX7) (N := 11) hx hb hts hinX7 hown hKK.1 hP 0 rfl rfl 3 (by decide) kl29 (fun _ h9 => h9) rfl dX7_giftOf_24 ?_
    refine va_get (D := G.1) (ci := 1) (v := .ref n2) (C := RX1) (T := TX1) (N := 10) hx hb hts hinX1 hown hKK.1 hP 8 rfl rfl 1 (by decide) kl135 (fun _ h9 => h9) rfl dX7_giftOf_27 ?_
    refine lv_iload_n hx hb dX7_giftOf_30 rfl (lv_at hl 1 rfl) ?_
    obtain ⟨hin, hv⟩ := hv
    refine va_iald hx hb hKK.1 hP 10 0 rfl rfl hin dX7_giftOf_31 ?_
    refine lv_aload_n hx hb dX7_giftOf_32 rfl (lv_at hl 0 rfl) ?_
    refine va_get (D := G.1) (ci := 7) (v := .ref t) (C := RX7) (T := TX7) (N := 11) hx hb hts hinX7 hown hKK.1 hP 0 rfl rfl 1 (by decide) kl19 (fun _ h9 => h9) rfl dX7_giftOf_33 ?_
    refine va_get (D := G.1) (ci := 6) (v := .ref t5) (C := RX6) (T := TX6) (N := 11) hx hb hts hinX6 hown hKK.1 hP 1 rfl rfl 9 (by decide) kl160 (fun _ h9 => h9) rfl dX7_giftOf_36 ?_
    refine lv_iload_n hx hb dX7_giftOf_39 rfl (lv_at hl 1 rfl) ?_
    obtain ⟨hin, hv⟩ := hv
    refine va_iald hx hb hKK.1 hP 6 0 rfl rfl hin dX7_giftOf_40 ?_
    refine lv_isub hx hb dX7_giftOf_41 ?_
    refine lv_iload_n hx hb dX7_giftOf_42 rfl (lv_at hl 2 rfl) ?_
    refine lv_aload_n hx hb dX7_giftOf_43 rfl (lv_at hl 0 rfl) ?_
    refine va_get (D := G.1) (ci := 7) (v := .ref t) (C := RX7) (T := TX7) (N := 11) hx hb hts hinX7 hown hKK.1 hP 0 rfl rfl 1 (by decide) kl19 (fun _ h9 => h9) rfl dX7_giftOf_44 ?_
    refine lv_iload_n hx hb dX7_giftOf_47 rfl (lv_at hl 1 rfl) ?_
    refine lv_iconst (v := 0) hx hb dX7_giftOf_48 (by decide) ?_
    obtain ⟨hp, hv⟩ := hv
    refine x_calliR (x_runV (As := [.int x, .int 0]) (rest := [.int y, .int ((wm x.toNatClampNeg) - (nd x.toNatClampNeg)), .int 0]) (n := 2) (C := RX6) (ci := 6) ⟨hx, hb, hml, hown, hts⟩ (k_X6_frostOn l G t t1 t2 t3 t4 t5 t6 _ ns np fu fd fi sz_ pt fh kd nd fw x 0 hp) gX7_giftOf_X6_frostOn rfl (by decide +kernel) ⟨Nat.le_trans (Nat.le_of_ble_eq_true rfl) hRf, Nat.le_trans (Nat.le_of_ble_eq_true rfl) hRl⟩ hKK hSS hS hA hP hD [1, 2, 3, 4, 5, 6, 7] (by decide) rfl rfl rfl 1 rfl rfl hl.1 rfl (Nat.le_of_ble_eq_true rfl) dX7_giftOf_49) hP hD hS hA [1, 2, 3, 4, 5, 6, 7] rfl (fun r_2 _ H locs hw hP hS => ?_)
    replace hw := hw.symm; subst hw
    refine lv_imul hx hb dX7_giftOf_52 ?_
    refine lv_isub hx hb dX7_giftOf_53 ?_
    refine va_mmax hx hb (hml.trans hl.1.symm) hown kl243 km_s_max km_i km_c_max (Nat.le_trans (Nat.le_of_ble_eq_true rfl) hRf) (Nat.le_trans (Nat.le_of_ble_eq_true rfl) hRl) (Nat.zero_le _) (Nat.zero_le _) dX7_giftOf_54 ?_
    exact x_iret (v := (if 0 < (((wm x.toNatClampNeg) - (nd x.toNatClampNeg)) - (y * (frostI (kd x.toNatClampNeg) fu fd 0))) then (((wm x.toNatClampNeg) - (nd x.toNatClampNeg)) - (y * (frostI (kd x.toNatClampNeg) fu fd 0))) else 0)) () hQ hx hb hr hlocks hS dX7_giftOf_57 hv hP hD
  · have hv := hv.2 hc_1
    refine lv_aload_n hx hb dX7_giftOf_12 rfl (lv_at hl 0 rfl) ?_
    refine va_get (D := G.1) (ci := 7) (v := .ref n) (C := RX7) (T := TX7) (N := 11) hx hb hts hinX7 hown hKK.1 hP 0 rfl rfl 3 (by decide) kl29 (fun _ h9 => h9) rfl dX7_giftOf_13 ?_
    refine va_get (D := G.1) (ci := 1) (v := .ref n2) (C := RX1) (T := TX1) (N := 10) hx hb hts hinX1 hown hKK.1 hP 8 rfl rfl 1 (by decide) kl135 (fun _ h9 => h9) rfl dX7_giftOf_16 ?_
    refine lv_iload_n hx hb dX7_giftOf_19 rfl (lv_at hl 1 rfl) ?_
    obtain ⟨hin, hv⟩ := hv
    refine va_iald hx hb hKK.1 hP 10 0 rfl rfl hin dX7_giftOf_20 ?_
    exact x_iret (v := (wm x.toNatClampNeg)) () hQ hx hb hr hlocks hS dX7_giftOf_21 hv hP hD
theorem v_X7_giftOf (l : Launch) (G : Gt) (h0 t t1 t2 t3 t4 t5 t6 n n1 n2 n3 n4 n5 n6 n7 : Nat) (sz : Nat) (e0 : Nat) (k : Nat) (j : Nat) (i0 : Nat) (b0 : Nat) (s0 : Nat) (q : Nat) (g : Nat) (kp : Int32) (ns : Int32) (np : Int32) (fu : Int32) (fd : Int32) (fi : Int32) (sz_ : Nat → Int32) (pt : Nat → Int32) (fh : Nat → Int32) (kd : Nat → Int32) (nd : Nat → Int32) (fw : Nat → Int32) (ht : Nat → Int32) (wm : Nat → Int32) (se : Nat → Int32) (cd : Nat → Int32) (sl : Nat → Int32) (od : Nat → Int32) (ow : Nat → Int32) (lo : Int32) (mi : Int32) (sd : Int32) (x : Int32) (y : Int32) (T : Nat → Nat → Int) (Ns : Nat) (Np : Nat) (v : Nat → Int) (M : Int) (ip : Nat) (hp : TOK T Ns Np ∧ CT T Ns Np ns np fu fd fi sz_ pt kd nd ∧ CN Ns Np v ht wm se cd sl od ow lo mi sd ∧ NOK T Ns Np (fun _ => 2 * M) M v ∧ M ≤ 900000 ∧ x = nI ip ∧ ip < Np ∧ 0 ≤ y.toInt ∧ y.toInt ≤ 99) : (vp_in x 8) ∧ ((¬ (nd x.toNatClampNeg) = 0 → (vp_in x 8) ∧ ((vp_in x 8) ∧ ((vp_in x 8) ∧ (((if 0 < (((wm x.toNatClampNeg) - (nd x.toNatClampNeg)) - (y * (frostI (kd x.toNatClampNeg) fu fd 0))) then (((wm x.toNatClampNeg) - (nd x.toNatClampNeg)) - (y * (frostI (kd x.toNatClampNeg) fu fd 0))) else 0) : Int32).toInt = maxZ 0 (v (10 + ip) - (if T 3 ip = 0 then 0 else T 3 ip + y.toInt * frostZ (T 2 ip) (T 4 0) (T 4 1) false)))))) ∧ ((nd x.toNatClampNeg) = 0 → (vp_in x 8) ∧ ((wm x.toNatClampNeg).toInt = maxZ 0 (v (10 + ip) - (if T 3 ip = 0 then 0 else T 3 ip + y.toInt * frostZ (T 2 ip) (T 4 0) (T 4 1) false))))) := by
  obtain ⟨hT, hC, hN, hO, hM, rfl, hi, y0, y1⟩ := hp
  have t2 := hT.2.1
  have t5 := hT.2.2.2.2
  have c : (nI ip).toNatClampNeg = ip := nI_clamp (by omega)
  have vo : vp_in (nI ip) 8 := vp_in_nI (by omega) (by omega)
  simp only [c]
  have bw := (nok_p hO hi).1
  have bn := hT.2.2.2.1 ip hi
  have hn := (hC.2.2.2.1 ip hi).2
  have hk := (hC.2.2.2.1 ip hi).1
  have ew := hN.w t2 hi
  have n0 : nd ip = 0 ↔ T 3 ip = 0 := i_eq hn rfl
  have hF : (frostI (kd ip) fu fd 0).toInt = frostZ (T 2 ip) (T 4 0) (T 4 1) false := frostI_Z hk hC.2.2.2.2.1 hC.2.2.2.2.2.1 rfl t5.1
  have fz := frostZ_bd (k := T 2 ip) (s := false) t5.1 t5.2.1 t5.2.2.1 t5.2.2.2.1
  have mm := mul99 y0 y1 fz.1 fz.2
  have ed := i_sub (i_sub ew hn (by omega) (by omega)) (i_mul (show y.toInt = y.toInt from rfl) hF (by omega) (by omega)) (by omega) (by omega)
  refine ⟨vo, fun h => ⟨vo, vo, vo, ?_⟩, fun h => ⟨vo, ?_⟩⟩
  · rw [if_neg (fun z => h (n0.mpr z)), i_if (i_lt i32_0 ed) ed i32_0]
    unfold maxZ
    split <;> split <;> omega
  · rw [if_pos (n0.mp h), ew]
    unfold maxZ
    split <;> omega
theorem k_X7_giftOf (l : Launch) (G : Gt) (h0 t t1 t2 t3 t4 t5 t6 n n1 n2 n3 n4 n5 n6 n7 : Nat) (sz : Nat) (e0 : Nat) (k : Nat) (j : Nat) (i0 : Nat) (b0 : Nat) (s0 : Nat) (q : Nat) (g : Nat) (kp : Int32) (ns : Int32) (np : Int32) (fu : Int32) (fd : Int32) (fi : Int32) (sz_ : Nat → Int32) (pt : Nat → Int32) (fh : Nat → Int32) (kd : Nat → Int32) (nd : Nat → Int32) (fw : Nat → Int32) (ht : Nat → Int32) (wm : Nat → Int32) (se : Nat → Int32) (cd : Nat → Int32) (sl : Nat → Int32) (od : Nat → Int32) (ow : Nat → Int32) (lo : Int32) (mi : Int32) (sd : Int32) (x : Int32) (y : Int32) (T : Nat → Nat → Int) (Ns : Nat) (Np : Nat) (v : Nat → Int) (M : Int) (ip : Nat) (hp : TOK T Ns Np ∧ CT T Ns Np ns np fu fd fi sz_ pt kd nd ∧ CN Ns Np v ht wm se cd sl od ow lo mi sd ∧ NOK T Ns Np (fun _ => 2 * M) M v ∧ M ≤ 900000 ∧ x = nI ip ∧ ip < Np ∧ 0 ≤ y.toInt ∧ y.toInt ≤ 99) : MetI l yX7_giftOf wsX7_giftOf 1 22 G [.ref h0, .int x, .int y] [(h0, .inr (7, [.ref e0, .ref t, .ref k, .ref n, .ref j, .ref i0, .int kp, .ref b0, .ref s0, .ref q, .ref g])), (t, .inr (6, [.int ns, .int np, .int fu, .int fd, .int fi, .ref t1, .ref t2, .ref t3, .ref t4, .ref t5, .ref t6])), aI G t1 9 sz_, aI G t2 9 pt, aI G t3 9 fh, aI G t4 8 kd, aI G t5 8 nd, aI G t6 8 fw, (n, .inr (1, [.ref n1, .ref n2, .ref n3, .ref n4, .ref n5, .ref n6, .ref n7, .int lo, .int mi, .int sd])), aI G n1 9 ht, aI G n2 8 wm, aI G n3 8 se, aI G n4 8 cd, aI G n5 8 sl, aI G n6 8 od, aI G n7 72 ow] sz (fun (r : Int32) (_ : Unit) => r.toInt = maxZ 0 (v (10 + ip) - (if T 3 ip = 0 then 0 else T 3 ip + y.toInt * frostZ (T 2 ip) (T 4 0) (T 4 1) false))) (fun (_ : Unit) => [(h0, .inr (7, [.ref e0, .ref t, .ref k, .ref n, .ref j, .ref i0, .int kp, .ref b0, .ref s0, .ref q, .ref g])), (t, .inr (6, [.int ns, .int np, .int fu, .int fd, .int fi, .ref t1, .ref t2, .ref t3, .ref t4, .ref t5, .ref t6])), aI G t1 9 sz_, aI G t2 9 pt, aI G t3 9 fh, aI G t4 8 kd, aI G t5 8 nd, aI G t6 8 fw, (n, .inr (1, [.ref n1, .ref n2, .ref n3, .ref n4, .ref n5, .ref n6, .ref n7, .int lo, .int mi, .int sd])), aI G n1 9 ht, aI G n2 8 wm, aI G n3 8 se, aI G n4 8 cd, aI G n5 8 sl, aI G n6 8 od, aI G n7 72 ow]) :=
  c_X7_giftOf l G h0 t t1 t2 t3 t4 t5 t6 n n1 n2 n3 n4 n5 n6 n7 sz e0 k j i0 b0 s0 q g kp ns np fu fd fi sz_ pt fh kd nd fw ht wm se cd sl od ow lo mi sd x y T Ns Np v M ip (v_X7_giftOf l G h0 t t1 t2 t3 t4 t5 t6 n n1 n2 n3 n4 n5 n6 n7 sz e0 k j i0 b0 s0 q g kp ns np fu fd fi sz_ pt fh kd nd fw ht wm se cd sl od ow lo mi sd x y T Ns Np v M ip hp)

set_option maxHeartbeats 4000000 in
set_option maxRecDepth 100000 in
theorem c_X7_gift (l : Launch) (G : Gt) (h0 t t1 t2 t3 t4 t5 t6 n n1 n2 n3 n4 n5 n6 n7 : Nat) (sz : Nat) (e0 : Nat) (k : Nat) (j : Nat) (i0 : Nat) (b0 : Nat) (s0 : Nat) (q : Nat) (g : Nat) (kp : Int32) (ns : Int32) (np : Int32) (fu : Int32) (fd : Int32) (fi : Int32) (sz_ : Nat → Int32) (pt : Nat → Int32) (fh : Nat → Int32) (kd : Nat → Int32) (nd : Nat → Int32) (fw : Nat → Int32) (ht : Nat → Int32) (wm : Nat → Int32) (se : Nat → Int32) (cd : Nat → Int32) (sl : Nat → Int32) (od : Nat → Int32) (ow : Nat → Int32) (lo : Int32) (mi : Int32) (sd : Int32) (x : Int32) (y : Int32) (T : Nat → Nat → Int) (Ns : Nat) (Np : Nat) (v : Nat → Int) (M : Int) (hv : (¬ x < 0 ∧ ¬ np ≤ x → (¬ y < 0 ∧ ¬ 99 < y → ∃ (I32_7 : Int32 → Int32 → Prop) (μ32_8 : Int32 → Int32 → Nat), I32_7 0 0 ∧ (∀ (x3_5 : Int32) (x4_6 : Int32), I32_7 x3_5 x4_6 → (np ≤ x4_6 → x3_5.toInt = aGift T Np v x.toInt y.toInt) ∧ (¬ (np ≤ x4_6) → (x4_6 = x → I32_7 x3_5 (x4_6 + 1) ∧ μ32_8 x3_5 (x4_6 + 1) < μ32_8 x3_5 x4_6) ∧ (¬ (x4_6 = x) → ∃ (gT_13 : Nat → Nat → Int) (gNs_14 : Nat) (gNp_15 : Nat) (gv_16 : Nat → Int) (gM_17 : Int) (gip_18 : Nat), ((TOK gT_13 gNs_14 gNp_15 ∧ CT gT_13 gNs_14 gNp_15 ns np fu fd fi sz_ pt kd nd ∧ CN gNs_14 gNp_15 gv_16 ht wm se cd sl od ow lo mi sd ∧ NOK gT_13 gNs_14 gNp_15 (fun _ => 2 * gM_17) gM_17 gv_16 ∧ gM_17 ≤ 900000 ∧ x4_6 = nI gip_18 ∧ gip_18 < gNp_15 ∧ 0 ≤ y.toInt ∧ y.toInt ≤ 99) ∧ (∀ (r_19 : Int32), (r_19.toInt = maxZ 0 (gv_16 (10 + gip_18) - (if gT_13 3 gip_18 = 0 then 0 else gT_13 3 gip_18 + y.toInt * frostZ (gT_13 2 gip_18) (gT_13 4 0) (gT_13 4 1) false))) → (I32_7 (x3_5 + r_19) (x4_6 + 1) ∧ μ32_8 (x3_5 + r_19) (x4_6 + 1) < μ32_8 x3_5 x4_6))))))) ∧ (¬ (¬ y < 0 ∧ ¬ 99 < y) → ((-1000000002) : Int32).toInt = aGift T Np v x.toInt y.toInt)) ∧ (¬ (¬ x < 0 ∧ ¬ np ≤ x) → ((-1000000001) : Int32).toInt = aGift T Np v x.toInt y.toInt)) : MetI l yX7_gift wsX7_gift 2 44 G [.ref h0, .int x, .int y] [(h0, .inr (7, [.ref e0, .ref t, .ref k, .ref n, .ref j, .ref i0, .int kp, .ref b0, .ref s0, .ref q, .ref g])), (t, .inr (6, [.int ns, .int np, .int fu, .int fd, .int fi, .ref t1, .ref t2, .ref t3, .ref t4, .ref t5, .ref t6])), aI G t1 9 sz_, aI G t2 9 pt, aI G t3 9 fh, aI G t4 8 kd, aI G t5 8 nd, aI G t6 8 fw, (n, .inr (1, [.ref n1, .ref n2, .ref n3, .ref n4, .ref n5, .ref n6, .ref n7, .int lo, .int mi, .int sd])), aI G n1 9 ht, aI G n2 8 wm, aI G n3 8 se, aI G n4 8 cd, aI G n5 8 sl, aI G n6 8 od, aI G n7 72 ow] sz (fun (r : Int32) (_ : Unit) => r.toInt = aGift T Np v x.toInt y.toInt) (fun (_ : Unit) => [(h0, .inr (7, [.ref e0, .ref t, .ref k, .ref n, .ref j, .ref i0, .int kp, .ref b0, .ref s0, .ref q, .ref g])), (t, .inr (6, [.int ns, .int np, .int fu, .int fd, .int fi, .ref t1, .ref t2, .ref t3, .ref t4, .ref t5, .ref t6])), aI G t1 9 sz_, aI G t2 9 pt, aI G t3 9 fh, aI G t4 8 kd, aI G t5 8 nd, aI G t6 8 fw, (n, .inr (1, [.ref n1, .ref n2, .ref n3, .ref n4, .ref n5, .ref n6, .ref n7, .int lo, .int mi, .int sd])), aI G n1 9 ht, aI G n2 8 wm, aI G n3 8 se, aI G n4 8 cd, aI G n5 8 sl, aI G n6 8 od, aI G n7 72 ow]) := by
  refine x_startI (cc := cX7_gift) (maxL := 5) (ret := (some .int)) (by decide) rfl (Nat.le_of_ble_eq_true rfl) ?_
  intro p e s m args below meth c A R Q ls hRf hRl hQ C hP hD hS hA hSS hl
  obtain ⟨hx, hb, hr, hml, hown, hts, hlocks, hKK⟩ := C
  have hown : s.vm.findClass RX7 = some m.cls := hown
  have hl : lv_has ls 5 [(0, .ref h0), (1, .int x), (2, .int y)] := hl
  have hinX6 : ∀ w ∈ u_ws RX6 TX6 11, w ∈ wsX7_gift := by decide +kernel
  have hinX7 : ∀ w ∈ u_ws RX7 TX7 11, w ∈ wsX7_gift := by decide +kernel
  have kl106 := hts (.fieldLink RX7 106 "WarmStones$Town" "persons" "I") (by decide +kernel)
  have kl143 := hts (.constant RX7 143 (-1000000001)) (by decide +kernel)
  have kl19 := hts (.fieldLink RX7 19 "WarmStones" "town" "LWarmStones$Town;") (by decide +kernel)
  have kl72 := hts (.constant RX7 72 (-1000000002)) (by decide +kernel)
  refine lv_aload_n hx hb dX7_gift_0 rfl (lv_at hl 0 rfl) ?_
  refine va_get (D := G.1) (ci := 7) (v := .ref t) (C := RX7) (T := TX7) (N := 11) hx hb hts hinX7 hown hKK.1 hP 0 rfl rfl 1 (by decide) kl19 (fun _ h9 => h9) rfl dX7_gift_1 ?_
  refine lv_iload_n hx hb dX7_gift_4 rfl (lv_at hl 1 rfl) ?_
  refine x_calliR (x_runV (As := [.int x]) (rest := []) (n := 1) (C := RX6) (ci := 6) ⟨hx, hb, hml, hown, hts⟩ (k_X6_hasPerson l G t t1 t2 t3 t4 t5 t6 _ ns np fu fd fi sz_ pt fh kd nd fw x) gX7_gift_X6_hasPerson rfl (by decide +kernel) ⟨Nat.le_trans (Nat.le_of_ble_eq_true rfl) hRf, Nat.le_trans (Nat.le_of_ble_eq_true rfl) hRl⟩ hKK hSS hS hA hP hD [1, 2, 3, 4, 5, 6, 7] (by decide) rfl rfl rfl 1 rfl rfl hl.1 rfl (Nat.le_of_ble_eq_true rfl) dX7_gift_5) hP hD hS hA [1, 2, 3, 4, 5, 6, 7] rfl (fun r_1 _ H locs hw hP hS => ?_)
  replace hw := hw.symm; subst hw
  refine lv_if_ne (tgt := 14) hx hb dX7_gift_8 (by decide) (fun hc_2 => ?_) (fun hc_2 => ?_)
  · have hv := hv.1 (tv_eqn.mp hc_2)
    refine lv_iload_n hx hb dX7_gift_14 rfl (lv_at hl 2 rfl) ?_
    refine lv_iconst (v := 0) hx hb dX7_gift_15 (by decide) ?_
    refine lv_bipush (v := 99) hx hb dX7_gift_16 (by decide) ?_
    refine x_calliR (x_runS (As := [.int y, .int 0, .int 99]) (rest := []) (n := 3) ⟨hx, hb, hml, hown, hts⟩ (k_X7_within l G  _ y 0 99) gX7_gift_X7_within rfl (by decide +kernel) ⟨Nat.le_trans (Nat.le_of_ble_eq_true rfl) hRf, Nat.le_trans (Nat.le_of_ble_eq_true rfl) hRl⟩ hKK hSS hS hA hP hD [] (by decide) rfl rfl hl.1 rfl (Nat.le_of_ble_eq_true rfl) dX7_gift_18) hP hD hS hA [] rfl (fun r_3 _ H locs hw hP hS => ?_)
    replace hw := hw.symm; subst hw
    refine lv_if_ne (tgt := 27) hx hb dX7_gift_21 (by decide) (fun hc_4 => ?_) (fun hc_4 => ?_)
    · have hv := hv.1 (tv_eqn.mp hc_4)
      refine lv_iconst (v := 0) hx hb dX7_gift_27 (by decide) ?_
      refine lv_istore_n (lv' := [(3, .int 0), (0, .ref h0), (1, .int x), (2, .int y)]) hx hb dX7_gift_28 rfl hl (by decide) rfl (fun ls hl => ?_)
      refine lv_iconst (v := 0) hx hb dX7_gift_29 (by decide) ?_
      refine lv_istore (lv' := [(4, .int 0), (3, .int 0), (0, .ref h0), (1, .int x), (2, .int y)]) hx hb dX7_gift_30 hl (by decide) rfl (fun ls hl => ?_)
      obtain ⟨I32_7, μ32_8, hi0, hs_20⟩ := hv
      have Lm_22 : ∀ (n_21 : Nat) (x3_5 : Int32) (x4_6 : Int32) (H : Heap) (locs : List Loc) (ls : Array Slot), μ32_8 x3_5 x4_6 < n_21 → I32_7 x3_5 x4_6 → va_P G.1 vwCl [(h0, .inr (7, [.ref e0, .ref t, .ref k, .ref n, .ref j, .ref i0, .int kp, .ref b0, .ref s0, .ref q, .ref g])), (t, .inr (6, [.int ns, .int np, .int fu, .int fd, .int fi, .ref t1, .ref t2, .ref t3, .ref t4, .ref t5, .ref t6])), aI G t1 9 sz_, aI G t2 9 pt, aI G t3 9 fh, aI G t4 8 kd, aI G t5 8 nd, aI G t6 8 fw, (n, .inr (1, [.ref n1, .ref n2, .ref n3, .ref n4, .ref n5, .ref n6, .ref n7, .int lo, .int mi, .int sd])), aI G n1 9 ht, aI G n2 8 wm, aI G n3 8 se, aI G n4 8 cd, aI G n5 8 sl, aI G n6 8 od, aI G n7 72 ow] H → va_D A [(h0, .inr (7, [.ref e0, .ref t, .ref k, .ref n, .ref j, .ref i0, .int kp, .ref b0, .ref s0, .ref q, .ref g])), (t, .inr (6, [.int ns, .int np, .int fu, .int fd, .int fi, .ref t1, .ref t2, .ref t3, .ref t4, .ref t5, .ref t6])), aI G t1 9 sz_, aI G t2 9 pt, aI G t3 9 fh, aI G t4 8 kd, aI G t5 8 nd, aI G t6 8 fw, (n, .inr (1, [.ref n1, .ref n2, .ref n3, .ref n4, .ref n5, .ref n6, .ref n7, .int lo, .int mi, .int sd])), aI G n1 9 ht, aI G n2 8 wm, aI G n3 8 se, aI G n4 8 cd, aI G n5 8 sl, aI G n6 8 od, aI G n7 72 ow] → va_S A s.heap H locs → lv_has ls 5 [(4, .int x4_6), (3, .int x3_5), (0, .ref h0), (1, .int x), (2, .int y)] → W p l e R s m args below meth c H locs 0 0 Q (F0 m 32 ls []) := by
        intro n_21
        induction n_21 with
        | zero => intro x3_5 x4_6 H locs ls hm; exact absurd hm (Nat.not_lt_zero _)
        | succ n_21 ih_9 =>
          intro x3_5 x4_6 H locs ls hI_10 hi hP hD hS hl
          have hv := hs_20 x3_5 x4_6 hi
          refine lv_iload hx hb dX7_gift_32 (lv_at hl 0 rfl) ?_
          refine lv_aload_n hx hb dX7_gift_34 rfl (lv_at hl 2 rfl) ?_
          refine va_get (D := G.1) (ci := 7) (v := .ref t) (C := RX7) (T := TX7) (N := 11) hx hb hts hinX7 hown hKK.1 hP 0 rfl rfl 1 (by decide) kl19 (fun _ h9 => h9) rfl dX7_gift_35 ?_
          refine va_get (D := G.1) (ci := 6) (v := .int np) (C := RX6) (T := TX6) (N := 11) hx hb hts hinX6 hown hKK.1 hP 1 rfl rfl 1 (by decide) kl106 (fun _ h9 => h9) rfl dX7_gift_38 ?_
          refine lv_icmp_ge (tgt := 66) hx hb dX7_gift_41 (by decide) (fun hc_11 => ?_) (fun hc_11 => ?_)
          · have hv := hv.1 hc_11
            refine lv_iload_n hx hb dX7_gift_66 rfl (lv_at hl 1 rfl) ?_
            exact x_iret (v := x3_5) () hQ hx hb hr hlocks hS dX7_gift_67 hv hP hD
          · have hv := hv.2 hc_11
            refine lv_iload hx hb dX7_gift_44 (lv_at hl 0 rfl) ?_
            refine lv_iload_n hx hb dX7_gift_46 rfl (lv_at hl 3 rfl) ?_
            refine lv_icmp_eq (tgt := 60) hx hb dX7_gift_47 (by decide) (fun hc_12 => ?_) (fun hc_12 => ?_)
            · have hv := hv.1 hc_12
              refine lv_iinc (v := (x4_6 + 1)) (lv' := [(4, .int (x4_6 + 1)), (3, .int x3_5), (0, .ref h0), (1, .int x), (2, .int y)]) hx hb dX7_gift_60 hl (k := 0) rfl rfl (by decide) rfl (fun ls hl => ?_)
              refine lv_goto (tgt := 32) hx hb dX7_gift_63 (by decide) ?_
              exact ih_9 _ _ _ _ _ (Nat.lt_of_lt_of_le hv.2 (Nat.le_of_lt_succ hI_10)) hv.1 hP hD hS hl
            · have hv := hv.2 hc_12
              refine lv_iload_n hx hb dX7_gift_50 rfl (lv_at hl 1 rfl) ?_
              refine lv_aload_n hx hb dX7_gift_51 rfl (lv_at hl 2 rfl) ?_
              refine lv_iload hx hb dX7_gift_52 (lv_at hl 0 rfl) ?_
              refine lv_iload_n hx hb dX7_gift_54 rfl (lv_at hl 4 rfl) ?_
              obtain ⟨gT_13, gNs_14, gNp_15, gv_16, gM_17, gip_18, hv⟩ := hv
              obtain ⟨hp, hv⟩ := hv
              refine x_calliR (x_runV (As := [.int x4_6, .int y]) (rest := [.int x3_5]) (n := 2) (C := RX7) (ci := 7) ⟨hx, hb, hml, hown, hts⟩ (k_X7_giftOf l G h0 t t1 t2 t3 t4 t5 t6 n n1 n2 n3 n4 n5 n6 n7 _ e0 k j i0 b0 s0 q g kp ns np fu fd fi sz_ pt fh kd nd fw ht wm se cd sl od ow lo mi sd x4_6 y gT_13 gNs_14 gNp_15 gv_16 gM_17 gip_18 hp) gX7_gift_X7_giftOf rfl (by decide +kernel) ⟨Nat.le_trans (Nat.le_of_ble_eq_true rfl) hRf, Nat.le_trans (Nat.le_of_ble_eq_true rfl) hRl⟩ hKK hSS hS hA hP hD [0, 1, 2, 3, 4, 5, 6, 7, 8, 9, 10, 11, 12, 13, 14, 15] (by decide) rfl rfl rfl 0 rfl rfl hl.1 rfl (Nat.le_of_ble_eq_true rfl) dX7_gift_55) hP hD hS hA [0, 1, 2, 3, 4, 5, 6, 7, 8, 9, 10, 11, 12, 13, 14, 15] rfl (fun r_19 _ H locs hw hP hS => ?_)
              have hv := hv r_19 hw
              refine lv_iadd hx hb dX7_gift_58 ?_
              refine lv_istore_n (lv' := [(3, .int (x3_5 + r_19)), (4, .int x4_6), (0, .ref h0), (1, .int x), (2, .int y)]) hx hb dX7_gift_59 rfl hl (by decide) rfl (fun ls hl => ?_)
              refine lv_iinc (v := (x4_6 + 1)) (lv' := [(4, .int (x4_6 + 1)), (3, .int (x3_5 + r_19)), (0, .ref h0), (1, .int x), (2, .int y)]) hx hb dX7_gift_60 hl (k := 1) rfl rfl (by decide) rfl (fun ls hl => ?_)
              refine lv_goto (tgt := 32) hx hb dX7_gift_63 (by decide) ?_
              exact ih_9 _ _ _ _ _ (Nat.lt_of_lt_of_le hv.2 (Nat.le_of_lt_succ hI_10)) hv.1 hP hD hS hl
      exact Lm_22 _ _ _ _ _ _ (Nat.lt_succ_self _) hi0 hP hD hS hl
    · have hv := hv.2 (tv_eq.mp hc_4)
      refine lv_ldc (v := (-1000000002)) hx hb hown kl72 dX7_gift_24 ?_
      exact x_iret (v := (-1000000002)) () hQ hx hb hr hlocks hS dX7_gift_26 hv hP hD
  · have hv := hv.2 (tv_eq.mp hc_2)
    refine lv_ldc (v := (-1000000001)) hx hb hown kl143 dX7_gift_11 ?_
    exact x_iret (v := (-1000000001)) () hQ hx hb hr hlocks hS dX7_gift_13 hv hP hD
theorem v_X7_gift (l : Launch) (G : Gt) (h0 t t1 t2 t3 t4 t5 t6 n n1 n2 n3 n4 n5 n6 n7 : Nat) (sz : Nat) (e0 : Nat) (k : Nat) (j : Nat) (i0 : Nat) (b0 : Nat) (s0 : Nat) (q : Nat) (g : Nat) (kp : Int32) (ns : Int32) (np : Int32) (fu : Int32) (fd : Int32) (fi : Int32) (sz_ : Nat → Int32) (pt : Nat → Int32) (fh : Nat → Int32) (kd : Nat → Int32) (nd : Nat → Int32) (fw : Nat → Int32) (ht : Nat → Int32) (wm : Nat → Int32) (se : Nat → Int32) (cd : Nat → Int32) (sl : Nat → Int32) (od : Nat → Int32) (ow : Nat → Int32) (lo : Int32) (mi : Int32) (sd : Int32) (x : Int32) (y : Int32) (T : Nat → Nat → Int) (Ns : Nat) (Np : Nat) (v : Nat → Int) (M : Int) (hp : TOK T Ns Np ∧ CT T Ns Np ns np fu fd fi sz_ pt kd nd ∧ CN Ns Np v ht wm se cd sl od ow lo mi sd ∧ NOK T Ns Np (fun _ => 2 * M) M v ∧ M ≤ 900000) : (¬ x < 0 ∧ ¬ np ≤ x → (¬ y < 0 ∧ ¬ 99 < y → ∃ (I32_7 : Int32 → Int32 → Prop) (μ32_8 : Int32 → Int32 → Nat), I32_7 0 0 ∧ (∀ (x3_5 : Int32) (x4_6 : Int32), I32_7 x3_5 x4_6 → (np ≤ x4_6 → x3_5.toInt = aGift T Np v x.toInt y.toInt) ∧ (¬ (np ≤ x4_6) → (x4_6 = x → I32_7 x3_5 (x4_6 + 1) ∧ μ32_8 x3_5 (x4_6 + 1) < μ32_8 x3_5 x4_6) ∧ (¬ (x4_6 = x) → ∃ (gT_13 : Nat → Nat → Int) (gNs_14 : Nat) (gNp_15 : Nat) (gv_16 : Nat → Int) (gM_17 : Int) (gip_18 : Nat), ((TOK gT_13 gNs_14 gNp_15 ∧ CT gT_13 gNs_14 gNp_15 ns np fu fd fi sz_ pt kd nd ∧ CN gNs_14 gNp_15 gv_16 ht wm se cd sl od ow lo mi sd ∧ NOK gT_13 gNs_14 gNp_15 (fun _ => 2 * gM_17) gM_17 gv_16 ∧ gM_17 ≤ 900000 ∧ x4_6 = nI gip_18 ∧ gip_18 < gNp_15 ∧ 0 ≤ y.toInt ∧ y.toInt ≤ 99) ∧ (∀ (r_19 : Int32), (r_19.toInt = maxZ 0 (gv_16 (10 + gip_18) - (if gT_13 3 gip_18 = 0 then 0 else gT_13 3 gip_18 + y.toInt * frostZ (gT_13 2 gip_18) (gT_13 4 0) (gT_13 4 1) false))) → (I32_7 (x3_5 + r_19) (x4_6 + 1) ∧ μ32_8 (x3_5 + r_19) (x4_6 + 1) < μ32_8 x3_5 x4_6))))))) ∧ (¬ (¬ y < 0 ∧ ¬ 99 < y) → ((-1000000002) : Int32).toInt = aGift T Np v x.toInt y.toInt)) ∧ (¬ (¬ x < 0 ∧ ¬ np ≤ x) → ((-1000000001) : Int32).toInt = aGift T Np v x.toInt y.toInt) := by
  obtain ⟨hT, hC, hN, hO, hM⟩ := hp
  have t1 := hT.1
  have t2 := hT.2.1
  have hns : ns = nI Ns := hC.1
  have hnp : np = nI Np := hC.2.1
  have hp_ := hs_iff (x := x) hnp (by omega)
  have hy_ : (¬ y < 0 ∧ ¬ 99 < y) ↔ (0 ≤ y.toInt ∧ y.toInt ≤ 99) := wi_iff rfl rfl
  simp only [hp_, hy_]
  refine ⟨fun h1 => ⟨fun h2 => ?_, fun h2 => by rw [aGift, if_pos h1, if_neg h2]; rfl⟩, fun h1 => by rw [aGift, if_neg h1]; rfl⟩
  rw [aGift, if_pos h1, if_pos h2]
  obtain ⟨p, hp, rfl, hxp, hxt⟩ := in_nat h1 (by omega)
  rw [hxt]
  refine ⟨fun s z => ∃ i, i ≤ Np ∧ z = nI i ∧ s.toInt = zGift T v p y.toInt i, fun _ z => 9 - z.toNatClampNeg, ⟨0, by omega, rfl, rfl⟩, ?_⟩
  rintro s z ⟨i, hi, rfl, hs⟩
  have ei : (nI i).toNatClampNeg = i := nI_clamp (by omega)
  have ei1 : nI i + 1 = nI (i + 1) := nI_1 i
  have ej : (nI (i + 1)).toNatClampNeg = i + 1 := nI_clamp (by omega)
  simp only [ei, ei1, ej, hnp]
  have gb := zGift_bd (p := p) hT hO h2.1 h2.2 i hi
  refine ⟨fun h => ?_, fun h => ?_⟩
  · have e : Np = i := by have := (nI_leI (a := Np) (b := i) (by omega) (by omega)).mp h; omega
    subst e
    exact hs
  · have hlt : i < Np := by
      rcases Nat.lt_or_ge i Np with q | q
      · exact q
      · exact absurd ((nI_leI (by omega) (by omega)).mpr q) h
    have hip : nI i = nI p ↔ i = p := nI_eq (by omega) (by omega)
    simp only [hip]
    refine ⟨fun h3 => ⟨⟨i + 1, by omega, rfl, by rw [zGift, if_pos h3]; omega⟩, by omega⟩, fun hne => ⟨T, Ns, Np, v, M, i, ⟨hT, by rw [← hnp]; exact hC, hN, hO, hM, rfl, hlt, h2.1, h2.2⟩, fun r hr => ⟨⟨i + 1, by omega, rfl, ?_⟩, by omega⟩⟩⟩
    have t5 := hT.2.2.2.2
    have bw := (nok_p hO hlt).1
    have bn := hT.2.2.2.1 i hlt
    have fz := frostZ_bd (k := T 2 i) (s := false) t5.1 t5.2.1 t5.2.2.1 t5.2.2.2.1
    have mm := mul99 h2.1 h2.2 fz.1 fz.2
    have mb := maxZ_bd (d := v (10 + i) - (if T 3 i = 0 then 0 else T 3 i + y.toInt * frostZ (T 2 i) (T 4 0) (T 4 1) false)) (by split <;> omega)
    rw [zGift, if_neg hne]
    exact i_add hs hr (by omega) (by omega)
theorem k_X7_gift (l : Launch) (G : Gt) (h0 t t1 t2 t3 t4 t5 t6 n n1 n2 n3 n4 n5 n6 n7 : Nat) (sz : Nat) (e0 : Nat) (k : Nat) (j : Nat) (i0 : Nat) (b0 : Nat) (s0 : Nat) (q : Nat) (g : Nat) (kp : Int32) (ns : Int32) (np : Int32) (fu : Int32) (fd : Int32) (fi : Int32) (sz_ : Nat → Int32) (pt : Nat → Int32) (fh : Nat → Int32) (kd : Nat → Int32) (nd : Nat → Int32) (fw : Nat → Int32) (ht : Nat → Int32) (wm : Nat → Int32) (se : Nat → Int32) (cd : Nat → Int32) (sl : Nat → Int32) (od : Nat → Int32) (ow : Nat → Int32) (lo : Int32) (mi : Int32) (sd : Int32) (x : Int32) (y : Int32) (T : Nat → Nat → Int) (Ns : Nat) (Np : Nat) (v : Nat → Int) (M : Int) (hp : TOK T Ns Np ∧ CT T Ns Np ns np fu fd fi sz_ pt kd nd ∧ CN Ns Np v ht wm se cd sl od ow lo mi sd ∧ NOK T Ns Np (fun _ => 2 * M) M v ∧ M ≤ 900000) : MetI l yX7_gift wsX7_gift 2 44 G [.ref h0, .int x, .int y] [(h0, .inr (7, [.ref e0, .ref t, .ref k, .ref n, .ref j, .ref i0, .int kp, .ref b0, .ref s0, .ref q, .ref g])), (t, .inr (6, [.int ns, .int np, .int fu, .int fd, .int fi, .ref t1, .ref t2, .ref t3, .ref t4, .ref t5, .ref t6])), aI G t1 9 sz_, aI G t2 9 pt, aI G t3 9 fh, aI G t4 8 kd, aI G t5 8 nd, aI G t6 8 fw, (n, .inr (1, [.ref n1, .ref n2, .ref n3, .ref n4, .ref n5, .ref n6, .ref n7, .int lo, .int mi, .int sd])), aI G n1 9 ht, aI G n2 8 wm, aI G n3 8 se, aI G n4 8 cd, aI G n5 8 sl, aI G n6 8 od, aI G n7 72 ow] sz (fun (r : Int32) (_ : Unit) => r.toInt = aGift T Np v x.toInt y.toInt) (fun (_ : Unit) => [(h0, .inr (7, [.ref e0, .ref t, .ref k, .ref n, .ref j, .ref i0, .int kp, .ref b0, .ref s0, .ref q, .ref g])), (t, .inr (6, [.int ns, .int np, .int fu, .int fd, .int fi, .ref t1, .ref t2, .ref t3, .ref t4, .ref t5, .ref t6])), aI G t1 9 sz_, aI G t2 9 pt, aI G t3 9 fh, aI G t4 8 kd, aI G t5 8 nd, aI G t6 8 fw, (n, .inr (1, [.ref n1, .ref n2, .ref n3, .ref n4, .ref n5, .ref n6, .ref n7, .int lo, .int mi, .int sd])), aI G n1 9 ht, aI G n2 8 wm, aI G n3 8 se, aI G n4 8 cd, aI G n5 8 sl, aI G n6 8 od, aI G n7 72 ow]) :=
  c_X7_gift l G h0 t t1 t2 t3 t4 t5 t6 n n1 n2 n3 n4 n5 n6 n7 sz e0 k j i0 b0 s0 q g kp ns np fu fd fi sz_ pt fh kd nd fw ht wm se cd sl od ow lo mi sd x y T Ns Np v M (v_X7_gift l G h0 t t1 t2 t3 t4 t5 t6 n n1 n2 n3 n4 n5 n6 n7 sz e0 k j i0 b0 s0 q g kp ns np fu fd fi sz_ pt fh kd nd fw ht wm se cd sl od ow lo mi sd x y T Ns Np v M hp)

set_option maxHeartbeats 4000000 in
set_option maxRecDepth 100000 in
theorem c_X7_palms (l : Launch) (G : Gt) (h0 t t1 t2 t3 t4 t5 t6 n n1 n2 n3 n4 n5 n6 n7 s0 : Nat) (sz : Nat) (e0 : Nat) (k : Nat) (j : Nat) (i0 : Nat) (b0 : Nat) (q : Nat) (g : Nat) (kp : Int32) (ns : Int32) (np : Int32) (fu : Int32) (fd : Int32) (fi : Int32) (sz_ : Nat → Int32) (pt : Nat → Int32) (fh : Nat → Int32) (kd : Nat → Int32) (nd : Nat → Int32) (fw : Nat → Int32) (ht : Nat → Int32) (wm : Nat → Int32) (se : Nat → Int32) (cd : Nat → Int32) (sl : Nat → Int32) (od : Nat → Int32) (ow : Nat → Int32) (lo : Int32) (mi : Int32) (sd : Int32) (sw : Int32) (sh : Int32) (x : Int32) (y : Int32) (w0 : Int32) (w1 : Int32) (w2 : Int32) (T : Nat → Nat → Int) (Ns : Nat) (Np : Nat) (v : Nat → Int) (M : Int) (hv : (¬ x < 0 ∧ ¬ ns ≤ x → (¬ (¬ y < 1 ∧ ¬ 60 < y) → ((-1000000002) : Int32).toInt = aPalms T Ns Np v x.toInt y.toInt w0.toInt w1.toInt w2.toInt) ∧ (¬ y < 1 ∧ ¬ 60 < y → (¬ (¬ w0 < 0 ∧ ¬ 9999 < w0) → ((-1000000002) : Int32).toInt = aPalms T Ns Np v x.toInt y.toInt w0.toInt w1.toInt w2.toInt) ∧ (¬ w0 < 0 ∧ ¬ 9999 < w0 → (¬ w1 < 0 ∧ ¬ 9999 < w1 → ∃ (I56_13 : Int32 → Int32 → Int32 → Int32 → Prop) (μ56_14 : Int32 → Int32 → Int32 → Int32 → Nat), I56_13 sw sh 0 0 ∧ (∀ (gs00_9 : Int32) (gs01_10 : Int32) (x6_11 : Int32) (x7_12 : Int32), I56_13 gs00_9 gs01_10 x6_11 x7_12 → (np ≤ x7_12 → (¬ w2 = (-1) → ((-1) : Int32).toInt = aPalms T Ns Np v x.toInt y.toInt w0.toInt w1.toInt w2.toInt) ∧ (w2 = (-1) → x6_11.toInt = aPalms T Ns Np v x.toInt y.toInt w0.toInt w1.toInt w2.toInt)) ∧ (¬ (np ≤ x7_12) → (vp_in x7_12 8) ∧ ((vp_in x 9) ∧ (∃ (I97_26 : Int32 → Int32 → Int32 → Int32 → Prop) (μ97_27 : Int32 → Int32 → Int32 → Int32 → Nat), I97_26 (wm x7_12.toNatClampNeg) (ht x.toNatClampNeg) x6_11 1 ∧ (∀ (gs00_22 : Int32) (gs01_23 : Int32) (x6_24 : Int32) (x8_25 : Int32), I97_26 gs00_22 gs01_23 x6_24 x8_25 → (y < x8_25 → I56_13 gs00_22 gs01_23 x6_24 (x7_12 + 1) ∧ μ56_14 gs00_22 gs01_23 x6_24 (x7_12 + 1) < μ56_14 gs00_9 gs01_10 x6_11 x7_12) ∧ (¬ (y < x8_25) → ∃ (gT_31 : Nat → Nat → Int) (gNs_32 : Nat) (gNp_33 : Nat) (gip_34 : Nat) (gxx_35 : Int × Int), ((TOK gT_31 gNs_32 gNp_33 ∧ CT gT_31 gNs_32 gNp_33 ns np fu fd fi sz_ pt kd nd ∧ x7_12 = nI gip_34 ∧ gip_34 < gNp_33 ∧ SOK gT_31 gNs_32 x.toInt gxx_35 ∧ gs00_22.toInt = gxx_35.1 ∧ gs01_23.toInt = gxx_35.2) ∧ (∀ (sw2_37 : Int32) (sh2_38 : Int32), (sw2_37.toInt = (zSt gT_31 gip_34 x.toInt gxx_35).1 ∧ sh2_38.toInt = (zSt gT_31 gip_34 x.toInt gxx_35).2) → (∃ (gT_39 : Nat → Nat → Int) (gNs_40 : Nat) (gNp_41 : Nat) (gib_42 : Nat) (gkq_43 : Nat) (gHh_44 : Int), ((TOK gT_39 gNs_40 gNp_41 ∧ CT gT_39 gNs_40 gNp_41 ns np fu fd fi sz_ pt kd nd ∧ x = nI gib_42 ∧ gib_42 < gNs_40 ∧ sh2_38.toInt = gHh_44 ∧ 0 ≤ gHh_44 ∧ gHh_44 ≤ 9999 ∧ (y - x8_25) = nI gkq_43 ∧ gkq_43 < 1000) ∧ (∀ (r_45 : Int32), (r_45.toInt = zLos gT_39 gib_42 gHh_44 gkq_43) → ((w1 < ((if 0 ≤ (r_45 - w0) then (r_45 - w0) else 0 - (r_45 - w0)) : Int32) → I97_26 sw2_37 sh2_38 x6_24 (x8_25 + 1) ∧ μ97_27 sw2_37 sh2_38 x6_24 (x8_25 + 1) < μ97_27 gs00_22 gs01_23 x6_24 x8_25) ∧ (¬ (w1 < ((if 0 ≤ (r_45 - w0) then (r_45 - w0) else 0 - (r_45 - w0)) : Int32)) → (¬ x6_24 = w2 → I97_26 sw2_37 sh2_38 (x6_24 + 1) (x8_25 + 1) ∧ μ97_27 sw2_37 sh2_38 (x6_24 + 1) (x8_25 + 1) < μ97_27 gs00_22 gs01_23 x6_24 x8_25) ∧ (x6_24 = w2 → ((100 * x7_12) + x8_25).toInt = aPalms T Ns Np v x.toInt y.toInt w0.toInt w1.toInt w2.toInt))))))))))))))) ∧ (¬ (¬ w1 < 0 ∧ ¬ 9999 < w1) → ((-1000000002) : Int32).toInt = aPalms T Ns Np v x.toInt y.toInt w0.toInt w1.toInt w2.toInt)))) ∧ (¬ (¬ x < 0 ∧ ¬ ns ≤ x) → ((-1000000001) : Int32).toInt = aPalms T Ns Np v x.toInt y.toInt w0.toInt w1.toInt w2.toInt)) : MetI l yX7_palms wsX7_palms 3 70 G [.ref h0, .int x, .int y, .int w0, .int w1, .int w2] [(h0, .inr (7, [.ref e0, .ref t, .ref k, .ref n, .ref j, .ref i0, .int kp, .ref b0, .ref s0, .ref q, .ref g])), (t, .inr (6, [.int ns, .int np, .int fu, .int fd, .int fi, .ref t1, .ref t2, .ref t3, .ref t4, .ref t5, .ref t6])), aI G t1 9 sz_, aI G t2 9 pt, aI G t3 9 fh, aI G t4 8 kd, aI G t5 8 nd, aI G t6 8 fw, (n, .inr (1, [.ref n1, .ref n2, .ref n3, .ref n4, .ref n5, .ref n6, .ref n7, .int lo, .int mi, .int sd])), aI G n1 9 ht, aI G n2 8 wm, aI G n3 8 se, aI G n4 8 cd, aI G n5 8 sl, aI G n6 8 od, aI G n7 72 ow, (s0, .inr (4, [.int sw, .int sh]))] sz (fun (r : Int32) (u : (Int32) × (Int32)) => r.toInt = aPalms T Ns Np v x.toInt y.toInt w0.toInt w1.toInt w2.toInt) (fun (u : (Int32) × (Int32)) => [(h0, .inr (7, [.ref e0, .ref t, .ref k, .ref n, .ref j, .ref i0, .int kp, .ref b0, .ref s0, .ref q, .ref g])), (t, .inr (6, [.int ns, .int np, .int fu, .int fd, .int fi, .ref t1, .ref t2, .ref t3, .ref t4, .ref t5, .ref t6])), aI G t1 9 sz_, aI G t2 9 pt, aI G t3 9 fh, aI G t4 8 kd, aI G t5 8 nd, aI G t6 8 fw, (n, .inr (1, [.ref n1, .ref n2, .ref n3, .ref n4, .ref n5, .ref n6, .ref n7, .int lo, .int mi, .int sd])), aI G n1 9 ht, aI G n2 8 wm, aI G n3 8 se, aI G n4 8 cd, aI G n5 8 sl, aI G n6 8 od, aI G n7 72 ow, (s0, .inr (4, [.int u.1, .int u.2]))]) := by
  refine x_startI (cc := cX7_palms) (maxL := 10) (ret := (some .int)) (by decide) rfl (Nat.le_of_ble_eq_true rfl) ?_
  intro p e s m args below meth c A R Q ls hRf hRl hQ C hP hD hS hA hSS hl
  obtain ⟨hx, hb, hr, hml, hown, hts, hlocks, hKK⟩ := C
  have hown : s.vm.findClass RX7 = some m.cls := hown
  have hl : lv_has ls 10 [(0, .ref h0), (1, .int x), (2, .int y), (3, .int w0), (4, .int w1), (5, .int w2)] := hl
  have hinX1 : ∀ w ∈ u_ws RX1 TX1 10, w ∈ wsX7_palms := by decide +kernel
  have hinX4 : ∀ w ∈ u_ws RX4 TX4 2, w ∈ wsX7_palms := by decide +kernel
  have hinX6 : ∀ w ∈ u_ws RX6 TX6 11, w ∈ wsX7_palms := by decide +kernel
  have hinX7 : ∀ w ∈ u_ws RX7 TX7 11, w ∈ wsX7_palms := by decide +kernel
  have kl106 := hts (.fieldLink RX7 106 "WarmStones$Town" "persons" "I") (by decide +kernel)
  have kl132 := hts (.fieldLink RX7 132 "WarmStones$Night" "heat" "[I") (by decide +kernel)
  have kl135 := hts (.fieldLink RX7 135 "WarmStones$Night" "warmth" "[I") (by decide +kernel)
  have kl143 := hts (.constant RX7 143 (-1000000001)) (by decide +kernel)
  have kl19 := hts (.fieldLink RX7 19 "WarmStones" "town" "LWarmStones$Town;") (by decide +kernel)
  have kl217 := hts (.fieldLink RX7 217 "WarmStones$Sitting" "heat" "I") (by decide +kernel)
  have kl223 := hts (.methodLink RX7 223 Lib.Math.abs.name) (by decide +kernel)
  have kl29 := hts (.fieldLink RX7 29 "WarmStones" "night" "LWarmStones$Night;") (by decide +kernel)
  have kl50 := hts (.fieldLink RX7 50 "WarmStones" "sitting" "LWarmStones$Sitting;") (by decide +kernel)
  have kl72 := hts (.constant RX7 72 (-1000000002)) (by decide +kernel)
  have km_c_abs := hts (.code Lib.Math.abs.name Lib.Math.abs.code 1 (some .int)) (by decide +kernel)
  have km_i := hts (.initialized "java/lang/Math") (by decide +kernel)
  have km_s_abs := hts (.static Lib.Math.abs.name) (by decide +kernel)
  refine lv_aload_n hx hb dX7_palms_0 rfl (lv_at hl 0 rfl) ?_
  refine va_get (D := G.1) (ci := 7) (v := .ref t) (C := RX7) (T := TX7) (N := 11) hx hb hts hinX7 hown hKK.1 hP 0 rfl rfl 1 (by decide) kl19 (fun _ h9 => h9) rfl dX7_palms_1 ?_
  refine lv_iload_n hx hb dX7_palms_4 rfl (lv_at hl 1 rfl) ?_
  refine x_calliR (x_runV (As := [.int x]) (rest := []) (n := 1) (C := RX6) (ci := 6) ⟨hx, hb, hml, hown, hts⟩ (k_X6_hasStone l G t t1 t2 t3 t4 t5 t6 _ ns np fu fd fi sz_ pt fh kd nd fw x) gX7_palms_X6_hasStone rfl (by decide +kernel) ⟨Nat.le_trans (Nat.le_of_ble_eq_true rfl) hRf, Nat.le_trans (Nat.le_of_ble_eq_true rfl) hRl⟩ hKK hSS hS hA hP hD [1, 2, 3, 4, 5, 6, 7] (by decide) rfl rfl rfl 1 rfl rfl hl.1 rfl (Nat.le_of_ble_eq_true rfl) dX7_palms_5) hP hD hS hA [1, 2, 3, 4, 5, 6, 7] rfl (fun r_1 _ H locs hw hP hS => ?_)
  replace hw := hw.symm; subst hw
  refine lv_if_ne (tgt := 14) hx hb dX7_palms_8 (by decide) (fun hc_2 => ?_) (fun hc_2 => ?_)
  · have hv := hv.1 (tv_eqn.mp hc_2)
    refine lv_iload_n hx hb dX7_palms_14 rfl (lv_at hl 2 rfl) ?_
    refine lv_iconst (v := 1) hx hb dX7_palms_15 (by decide) ?_
    refine lv_bipush (v := 60) hx hb dX7_palms_16 (by decide) ?_
    refine x_calliR (x_runS (As := [.int y, .int 1, .int 60]) (rest := []) (n := 3) ⟨hx, hb, hml, hown, hts⟩ (k_X7_within l G  _ y 1 60) gX7_palms_X7_within rfl (by decide +kernel) ⟨Nat.le_trans (Nat.le_of_ble_eq_true rfl) hRf, Nat.le_trans (Nat.le_of_ble_eq_true rfl) hRl⟩ hKK hSS hS hA hP hD [] (by decide) rfl rfl hl.1 rfl (Nat.le_of_ble_eq_true rfl) dX7_palms_18) hP hD hS hA [] rfl (fun r_3 _ H locs hw hP hS => ?_)
    replace hw := hw.symm; subst hw
    refine lv_if_eq (tgt := 47) hx hb dX7_palms_21 (by decide) (fun hc_4 => ?_) (fun hc_4 => ?_)
    · have hv := hv.1 (tv_eq.mp hc_4)
      refine lv_ldc (v := (-1000000002)) hx hb hown kl72 dX7_palms_47 ?_
      exact x_iret (v := (-1000000002)) (sw, sh) hQ hx hb hr hlocks hS dX7_palms_49 hv hP hD
    · have hv := hv.2 (tv_eqn.mp hc_4)
      refine lv_iload_n hx hb dX7_palms_24 rfl (lv_at hl 3 rfl) ?_
      refine lv_iconst (v := 0) hx hb dX7_palms_25 (by decide) ?_
      refine lv_sipush (v := 9999) hx hb dX7_palms_26 (by decide) ?_
      refine x_calliR (x_runS (As := [.int w0, .int 0, .int 9999]) (rest := []) (n := 3) ⟨hx, hb, hml, hown, hts⟩ (k_X7_within l G  _ w0 0 9999) gX7_palms_X7_within rfl (by decide +kernel) ⟨Nat.le_trans (Nat.le_of_ble_eq_true rfl) hRf, Nat.le_trans (Nat.le_of_ble_eq_true rfl) hRl⟩ hKK hSS hS hA hP hD [] (by decide) rfl rfl hl.1 rfl (Nat.le_of_ble_eq_true rfl) dX7_palms_29) hP hD hS hA [] rfl (fun r_5 _ H locs hw hP hS => ?_)
      replace hw := hw.symm; subst hw
      refine lv_if_eq (tgt := 47) hx hb dX7_palms_32 (by decide) (fun hc_6 => ?_) (fun hc_6 => ?_)
      · have hv := hv.1 (tv_eq.mp hc_6)
        refine lv_ldc (v := (-1000000002)) hx hb hown kl72 dX7_palms_47 ?_
        exact x_iret (v := (-1000000002)) (sw, sh) hQ hx hb hr hlocks hS dX7_palms_49 hv hP hD
      · have hv := hv.2 (tv_eqn.mp hc_6)
        refine lv_iload hx hb dX7_palms_35 (lv_at hl 4 rfl) ?_
        refine lv_iconst (v := 0) hx hb dX7_palms_37 (by decide) ?_
        refine lv_sipush (v := 9999) hx hb dX7_palms_38 (by decide) ?_
        refine x_calliR (x_runS (As := [.int w1, .int 0, .int 9999]) (rest := []) (n := 3) ⟨hx, hb, hml, hown, hts⟩ (k_X7_within l G  _ w1 0 9999) gX7_palms_X7_within rfl (by decide +kernel) ⟨Nat.le_trans (Nat.le_of_ble_eq_true rfl) hRf, Nat.le_trans (Nat.le_of_ble_eq_true rfl) hRl⟩ hKK hSS hS hA hP hD [] (by decide) rfl rfl hl.1 rfl (Nat.le_of_ble_eq_true rfl) dX7_palms_41) hP hD hS hA [] rfl (fun r_7 _ H locs hw hP hS => ?_)
        replace hw := hw.symm; subst hw
        refine lv_if_ne (tgt := 50) hx hb dX7_palms_44 (by decide) (fun hc_8 => ?_) (fun hc_8 => ?_)
        · have hv := hv.1 (tv_eqn.mp hc_8)
          refine lv_iconst (v := 0) hx hb dX7_palms_50 (by decide) ?_
          refine lv_istore (lv' := [(6, .int 0), (0, .ref h0), (1, .int x), (2, .int y), (3, .int w0), (4, .int w1), (5, .int w2)]) hx hb dX7_palms_51 hl (by decide) rfl (fun ls hl => ?_)
          refine lv_iconst (v := 0) hx hb dX7_palms_53 (by decide) ?_
          refine lv_istore (lv' := [(7, .int 0), (6, .int 0), (0, .ref h0), (1, .int x), (2, .int y), (3, .int w0), (4, .int w1), (5, .int w2)]) hx hb dX7_palms_54 hl (by decide) rfl (fun ls hl => ?_)
          obtain ⟨I56_13, μ56_14, hi0, hs_51⟩ := hv
          have Lm_53 : ∀ (n_52 : Nat) (gs00_9 : Int32) (gs01_10 : Int32) (x6_11 : Int32) (x7_12 : Int32) (H : Heap) (locs : List Loc) (ls : Array Slot), μ56_14 gs00_9 gs01_10 x6_11 x7_12 < n_52 → I56_13 gs00_9 gs01_10 x6_11 x7_12 → va_P G.1 vwCl [(h0, .inr (7, [.ref e0, .ref t, .ref k, .ref n, .ref j, .ref i0, .int kp, .ref b0, .ref s0, .ref q, .ref g])), (t, .inr (6, [.int ns, .int np, .int fu, .int fd, .int fi, .ref t1, .ref t2, .ref t3, .ref t4, .ref t5, .ref t6])), aI G t1 9 sz_, aI G t2 9 pt, aI G t3 9 fh, aI G t4 8 kd, aI G t5 8 nd, aI G t6 8 fw, (n, .inr (1, [.ref n1, .ref n2, .ref n3, .ref n4, .ref n5, .ref n6, .ref n7, .int lo, .int mi, .int sd])), aI G n1 9 ht, aI G n2 8 wm, aI G n3 8 se, aI G n4 8 cd, aI G n5 8 sl, aI G n6 8 od, aI G n7 72 ow, (s0, .inr (4, [.int gs00_9, .int gs01_10]))] H → va_D A [(h0, .inr (7, [.ref e0, .ref t, .ref k, .ref n, .ref j, .ref i0, .int kp, .ref b0, .ref s0, .ref q, .ref g])), (t, .inr (6, [.int ns, .int np, .int fu, .int fd, .int fi, .ref t1, .ref t2, .ref t3, .ref t4, .ref t5, .ref t6])), aI G t1 9 sz_, aI G t2 9 pt, aI G t3 9 fh, aI G t4 8 kd, aI G t5 8 nd, aI G t6 8 fw, (n, .inr (1, [.ref n1, .ref n2, .ref n3, .ref n4, .ref n5, .ref n6, .ref n7, .int lo, .int mi, .int sd])), aI G n1 9 ht, aI G n2 8 wm, aI G n3 8 se, aI G n4 8 cd, aI G n5 8 sl, aI G n6 8 od, aI G n7 72 ow, (s0, .inr (4, [.int gs00_9, .int gs01_10]))] → va_S A s.heap H locs → lv_has ls 10 [(7, .int x7_12), (6, .int x6_11), (0, .ref h0), (1, .int x), (2, .int y), (3, .int w0), (4, .int w1), (5, .int w2)] → W p l e R s m args below meth c H locs 0 0 Q (F0 m 56 ls []) := by
            intro n_52
            induction n_52 with
            | zero => intro gs00_9 gs01_10 x6_11 x7_12 H locs ls hm; exact absurd hm (Nat.not_lt_zero _)
            | succ n_52 ih_15 =>
              intro gs00_9 gs01_10 x6_11 x7_12 H locs ls hI_16 hi hP hD hS hl
              have hv := hs_51 gs00_9 gs01_10 x6_11 x7_12 hi
              refine lv_iload hx hb dX7_palms_56 (lv_at hl 0 rfl) ?_
              refine lv_aload_n hx hb dX7_palms_58 rfl (lv_at hl 2 rfl) ?_
              refine va_get (D := G.1) (ci := 7) (v := .ref t) (C := RX7) (T := TX7) (N := 11) hx hb hts hinX7 hown hKK.1 hP 0 rfl rfl 1 (by decide) kl19 (fun _ h9 => h9) rfl dX7_palms_59 ?_
              refine va_get (D := G.1) (ci := 6) (v := .int np) (C := RX6) (T := TX6) (N := 11) hx hb hts hinX6 hown hKK.1 hP 1 rfl rfl 1 (by decide) kl106 (fun _ h9 => h9) rfl dX7_palms_62 ?_
              refine lv_icmp_ge (tgt := 181) hx hb dX7_palms_65 (by decide) (fun hc_17 => ?_) (fun hc_17 => ?_)
              · have hv := hv.1 hc_17
                refine lv_iload hx hb dX7_palms_181 (lv_at hl 7 rfl) ?_
                refine lv_iconst (v := (-1)) hx hb dX7_palms_183 (by decide) ?_
                refine lv_icmp_ne (tgt := 192) hx hb dX7_palms_184 (by decide) (fun hc_18 => ?_) (fun hc_18 => ?_)
                · have hv := hv.1 hc_18
                  refine lv_iconst (v := (-1)) hx hb dX7_palms_192 (by decide) ?_
                  exact x_iret (v := (-1)) (gs00_9, gs01_10) hQ hx hb hr hlocks hS dX7_palms_193 hv hP hD
                · have hv := hv.2 hc_18
                  refine lv_iload hx hb dX7_palms_187 (lv_at hl 1 rfl) ?_
                  refine lv_goto (tgt := 193) hx hb dX7_palms_189 (by decide) ?_
                  exact x_iret (v := x6_11) (gs00_9, gs01_10) hQ hx hb hr hlocks hS dX7_palms_193 hv hP hD
              · have hv := hv.2 hc_17
                refine lv_aload_n hx hb dX7_palms_68 rfl (lv_at hl 2 rfl) ?_
                refine va_get (D := G.1) (ci := 7) (v := .ref s0) (C := RX7) (T := TX7) (N := 11) hx hb hts hinX7 hown hKK.1 hP 0 rfl rfl 8 (by decide) kl50 (fun _ h9 => h9) rfl dX7_palms_69 ?_
                refine lv_aload_n hx hb dX7_palms_72 rfl (lv_at hl 2 rfl) ?_
                refine va_get (D := G.1) (ci := 7) (v := .ref n) (C := RX7) (T := TX7) (N := 11) hx hb hts hinX7 hown hKK.1 hP 0 rfl rfl 3 (by decide) kl29 (fun _ h9 => h9) rfl dX7_palms_73 ?_
                refine va_get (D := G.1) (ci := 1) (v := .ref n2) (C := RX1) (T := TX1) (N := 10) hx hb hts hinX1 hown hKK.1 hP 8 rfl rfl 1 (by decide) kl135 (fun _ h9 => h9) rfl dX7_palms_76 ?_
                refine lv_iload hx hb dX7_palms_79 (lv_at hl 0 rfl) ?_
                obtain ⟨hin, hv⟩ := hv
                refine va_iald hx hb hKK.1 hP 10 0 rfl rfl hin dX7_palms_81 ?_
                refine lv_aload_n hx hb dX7_palms_82 rfl (lv_at hl 2 rfl) ?_
                refine va_get (D := G.1) (ci := 7) (v := .ref n) (C := RX7) (T := TX7) (N := 11) hx hb hts hinX7 hown hKK.1 hP 0 rfl rfl 3 (by decide) kl29 (fun _ h9 => h9) rfl dX7_palms_83 ?_
                refine va_get (D := G.1) (ci := 1) (v := .ref n1) (C := RX1) (T := TX1) (N := 10) hx hb hts hinX1 hown hKK.1 hP 8 rfl rfl 0 (by decide) kl132 (fun _ h9 => h9) rfl dX7_palms_86 ?_
                refine lv_iload_n hx hb dX7_palms_89 rfl (lv_at hl 3 rfl) ?_
                obtain ⟨hin, hv⟩ := hv
                refine va_iald hx hb hKK.1 hP 9 0 rfl rfl hin dX7_palms_90 ?_
                refine x_callv (wr := [(h0, .inr (7, [.ref e0, .ref t, .ref k, .ref n, .ref j, .ref i0, .int kp, .ref b0, .ref s0, .ref q, .ref g])), (t, .inr (6, [.int ns, .int np, .int fu, .int fd, .int fi, .ref t1, .ref t2, .ref t3, .ref t4, .ref t5, .ref t6])), aI G t1 9 sz_, aI G t2 9 pt, aI G t3 9 fh, aI G t4 8 kd, aI G t5 8 nd, aI G t6 8 fw, (n, .inr (1, [.ref n1, .ref n2, .ref n3, .ref n4, .ref n5, .ref n6, .ref n7, .int lo, .int mi, .int sd])), aI G n1 9 ht, aI G n2 8 wm, aI G n3 8 se, aI G n4 8 cd, aI G n5 8 sl, aI G n6 8 od, aI G n7 72 ow]) (w' := fun (u : (Int32) × (Int32)) => [(h0, .inr (7, [.ref e0, .ref t, .ref k, .ref n, .ref j, .ref i0, .int kp, .ref b0, .ref s0, .ref q, .ref g])), (t, .inr (6, [.int ns, .int np, .int fu, .int fd, .int fi, .ref t1, .ref t2, .ref t3, .ref t4, .ref t5, .ref t6])), aI G t1 9 sz_, aI G t2 9 pt, aI G t3 9 fh, aI G t4 8 kd, aI G t5 8 nd, aI G t6 8 fw, (n, .inr (1, [.ref n1, .ref n2, .ref n3, .ref n4, .ref n5, .ref n6, .ref n7, .int lo, .int mi, .int sd])), aI G n1 9 ht, aI G n2 8 wm, aI G n3 8 se, aI G n4 8 cd, aI G n5 8 sl, aI G n6 8 od, aI G n7 72 ow, (s0, .inr (4, [.int u.1, .int u.2]))]) (x_runV (As := [.int (wm x7_12.toNatClampNeg), .int (ht x.toNatClampNeg)]) (rest := []) (n := 2) (C := RX4) (ci := 4) ⟨hx, hb, hml, hown, hts⟩ (k_X4_begin l G s0 _ gs00_9 gs01_10 (wm x7_12.toNatClampNeg) (ht x.toNatClampNeg)) gX7_palms_X4_begin rfl (by decide +kernel) ⟨Nat.le_trans (Nat.le_of_ble_eq_true rfl) hRf, Nat.le_trans (Nat.le_of_ble_eq_true rfl) hRl⟩ hKK hSS hS hA hP hD [16] (by decide) rfl rfl rfl 16 rfl rfl hl.1 rfl (Nat.le_of_ble_eq_true rfl) dX7_palms_91) hP hD hS hA [16] [0, 1, 2, 3, 4, 5, 6, 7, 8, 9, 10, 11, 12, 13, 14, 15] [0, 1, 2, 3, 4, 5, 6, 7, 8, 9, 10, 11, 12, 13, 14, 15, 16] rfl rfl (by decide) (by decide) (by decide) (fun _ => rfl) (fun  u H locs hw hP hD hS => ?_)
                obtain ⟨sw2_20, sh2_21⟩ := u
                obtain ⟨hw0, hw1⟩ := hw
                replace hw0 := hw0.symm; subst hw0
                replace hw1 := hw1.symm; subst hw1
                have hP : va_P G.1 vwCl [(h0, .inr (7, [.ref e0, .ref t, .ref k, .ref n, .ref j, .ref i0, .int kp, .ref b0, .ref s0, .ref q, .ref g])), (t, .inr (6, [.int ns, .int np, .int fu, .int fd, .int fi, .ref t1, .ref t2, .ref t3, .ref t4, .ref t5, .ref t6])), aI G t1 9 sz_, aI G t2 9 pt, aI G t3 9 fh, aI G t4 8 kd, aI G t5 8 nd, aI G t6 8 fw, (n, .inr (1, [.ref n1, .ref n2, .ref n3, .ref n4, .ref n5, .ref n6, .ref n7, .int lo, .int mi, .int sd])), aI G n1 9 ht, aI G n2 8 wm, aI G n3 8 se, aI G n4 8 cd, aI G n5 8 sl, aI G n6 8 od, aI G n7 72 ow, (s0, .inr (4, [.int (wm x7_12.toNatClampNeg), .int (ht x.toNatClampNeg)]))] H := hP
                have hD : va_D A [(h0, .inr (7, [.ref e0, .ref t, .ref k, .ref n, .ref j, .ref i0, .int kp, .ref b0, .ref s0, .ref q, .ref g])), (t, .inr (6, [.int ns, .int np, .int fu, .int fd, .int fi, .ref t1, .ref t2, .ref t3, .ref t4, .ref t5, .ref t6])), aI G t1 9 sz_, aI G t2 9 pt, aI G t3 9 fh, aI G t4 8 kd, aI G t5 8 nd, aI G t6 8 fw, (n, .inr (1, [.ref n1, .ref n2, .ref n3, .ref n4, .ref n5, .ref n6, .ref n7, .int lo, .int mi, .int sd])), aI G n1 9 ht, aI G n2 8 wm, aI G n3 8 se, aI G n4 8 cd, aI G n5 8 sl, aI G n6 8 od, aI G n7 72 ow, (s0, .inr (4, [.int (wm x7_12.toNatClampNeg), .int (ht x.toNatClampNeg)]))] := hD
                refine lv_iconst (v := 1) hx hb dX7_palms_94 (by decide) ?_
                refine lv_istore (lv' := [(8, .int 1), (7, .int x7_12), (6, .int x6_11), (0, .ref h0), (1, .int x), (2, .int y), (3, .int w0), (4, .int w1), (5, .int w2)]) hx hb dX7_palms_95 hl (by decide) rfl (fun ls hl => ?_)
                obtain ⟨I97_26, μ97_27, hi0, hs_48⟩ := hv
                have Lm_50 : ∀ (n_49 : Nat) (gs00_22 : Int32) (gs01_23 : Int32) (x6_24 : Int32) (x8_25 : Int32) (H : Heap) (locs : List Loc) (ls : Array Slot), μ97_27 gs00_22 gs01_23 x6_24 x8_25 < n_49 → I97_26 gs00_22 gs01_23 x6_24 x8_25 → va_P G.1 vwCl [(h0, .inr (7, [.ref e0, .ref t, .ref k, .ref n, .ref j, .ref i0, .int kp, .ref b0, .ref s0, .ref q, .ref g])), (t, .inr (6, [.int ns, .int np, .int fu, .int fd, .int fi, .ref t1, .ref t2, .ref t3, .ref t4, .ref t5, .ref t6])), aI G t1 9 sz_, aI G t2 9 pt, aI G t3 9 fh, aI G t4 8 kd, aI G t5 8 nd, aI G t6 8 fw, (n, .inr (1, [.ref n1, .ref n2, .ref n3, .ref n4, .ref n5, .ref n6, .ref n7, .int lo, .int mi, .int sd])), aI G n1 9 ht, aI G n2 8 wm, aI G n3 8 se, aI G n4 8 cd, aI G n5 8 sl, aI G n6 8 od, aI G n7 72 ow, (s0, .inr (4, [.int gs00_22, .int gs01_23]))] H → va_D A [(h0, .inr (7, [.ref e0, .ref t, .ref k, .ref n, .ref j, .ref i0, .int kp, .ref b0, .ref s0, .ref q, .ref g])), (t, .inr (6, [.int ns, .int np, .int fu, .int fd, .int fi, .ref t1, .ref t2, .ref t3, .ref t4, .ref t5, .ref t6])), aI G t1 9 sz_, aI G t2 9 pt, aI G t3 9 fh, aI G t4 8 kd, aI G t5 8 nd, aI G t6 8 fw, (n, .inr (1, [.ref n1, .ref n2, .ref n3, .ref n4, .ref n5, .ref n6, .ref n7, .int lo, .int mi, .int sd])), aI G n1 9 ht, aI G n2 8 wm, aI G n3 8 se, aI G n4 8 cd, aI G n5 8 sl, aI G n6 8 od, aI G n7 72 ow, (s0, .inr (4, [.int gs00_22, .int gs01_23]))] → va_S A s.heap H locs → lv_has ls 10 [(8, .int x8_25), (7, .int x7_12), (6, .int x6_24), (0, .ref h0), (1, .int x), (2, .int y), (3, .int w0), (4, .int w1), (5, .int w2)] → W p l e R s m args below meth c H locs 0 0 Q (F0 m 97 ls []) := by
                  intro n_49
                  induction n_49 with
                  | zero => intro gs00_22 gs01_23 x6_24 x8_25 H locs ls hm; exact absurd hm (Nat.not_lt_zero _)
                  | succ n_49 ih_28 =>
                    intro gs00_22 gs01_23 x6_24 x8_25 H locs ls hI_29 hi hP hD hS hl
                    have hv := hs_48 gs00_22 gs01_23 x6_24 x8_25 hi
                    refine lv_iload hx hb dX7_palms_97 (lv_at hl 0 rfl) ?_
                    refine lv_iload_n hx hb dX7_palms_99 rfl (lv_at hl 5 rfl) ?_
                    refine lv_icmp_gt (tgt := 175) hx hb dX7_palms_100 (by decide) (fun hc_30 => ?_) (fun hc_30 => ?_)
                    · have hv := hv.1 hc_30
                      refine lv_iinc (v := (x7_12 + 1)) (lv' := [(7, .int (x7_12 + 1)), (8, .int x8_25), (6, .int x6_24), (0, .ref h0), (1, .int x), (2, .int y), (3, .int w0), (4, .int w1), (5, .int w2)]) hx hb dX7_palms_175 hl (k := 1) rfl rfl (by decide) rfl (fun ls hl => ?_)
                      refine lv_goto (tgt := 56) hx hb dX7_palms_178 (by decide) ?_
                      exact ih_15 _ _ _ _ _ _ _ (Nat.lt_of_lt_of_le hv.2 (Nat.le_of_lt_succ hI_16)) hv.1 hP hD hS (lv_sub hl [0, 2, 3, 4, 5, 6, 7, 8] rfl)
                    · have hv := hv.2 hc_30
                      refine lv_aload_n hx hb dX7_palms_103 rfl (lv_at hl 3 rfl) ?_
                      refine va_get (D := G.1) (ci := 7) (v := .ref s0) (C := RX7) (T := TX7) (N := 11) hx hb hts hinX7 hown hKK.1 hP 0 rfl rfl 8 (by decide) kl50 (fun _ h9 => h9) rfl dX7_palms_104 ?_
                      refine lv_aload_n hx hb dX7_palms_107 rfl (lv_at hl 3 rfl) ?_
                      refine va_get (D := G.1) (ci := 7) (v := .ref t) (C := RX7) (T := TX7) (N := 11) hx hb hts hinX7 hown hKK.1 hP 0 rfl rfl 1 (by decide) kl19 (fun _ h9 => h9) rfl dX7_palms_108 ?_
                      refine lv_iload hx hb dX7_palms_111 (lv_at hl 1 rfl) ?_
                      refine lv_iload_n hx hb dX7_palms_113 rfl (lv_at hl 4 rfl) ?_
                      obtain ⟨gT_31, gNs_32, gNp_33, gip_34, gxx_35, hv⟩ := hv
                      obtain ⟨hp, hv⟩ := hv
                      refine x_callv (wr := [(h0, .inr (7, [.ref e0, .ref t, .ref k, .ref n, .ref j, .ref i0, .int kp, .ref b0, .ref s0, .ref q, .ref g])), (n, .inr (1, [.ref n1, .ref n2, .ref n3, .ref n4, .ref n5, .ref n6, .ref n7, .int lo, .int mi, .int sd])), aI G n1 9 ht, aI G n2 8 wm, aI G n3 8 se, aI G n4 8 cd, aI G n5 8 sl, aI G n6 8 od, aI G n7 72 ow]) (w' := fun (u : (Int32) × (Int32)) => [(h0, .inr (7, [.ref e0, .ref t, .ref k, .ref n, .ref j, .ref i0, .int kp, .ref b0, .ref s0, .ref q, .ref g])), (t, .inr (6, [.int ns, .int np, .int fu, .int fd, .int fi, .ref t1, .ref t2, .ref t3, .ref t4, .ref t5, .ref t6])), aI G t1 9 sz_, aI G t2 9 pt, aI G t3 9 fh, aI G t4 8 kd, aI G t5 8 nd, aI G t6 8 fw, (n, .inr (1, [.ref n1, .ref n2, .ref n3, .ref n4, .ref n5, .ref n6, .ref n7, .int lo, .int mi, .int sd])), aI G n1 9 ht, aI G n2 8 wm, aI G n3 8 se, aI G n4 8 cd, aI G n5 8 sl, aI G n6 8 od, aI G n7 72 ow, (s0, .inr (4, [.int u.1, .int u.2]))]) (x_runV (As := [.ref t, .int x7_12, .int x]) (rest := []) (n := 3) (C := RX4) (ci := 4) ⟨hx, hb, hml, hown, hts⟩ (k_X4_passMinute l G s0 t t1 t2 t3 t4 t5 t6 _ gs00_22 gs01_23 ns np fu fd fi sz_ pt fh kd nd fw x7_12 x gT_31 gNs_32 gNp_33 gip_34 gxx_35 hp) gX7_palms_X4_passMinute rfl (by decide +kernel) ⟨Nat.le_trans (Nat.le_of_ble_eq_true rfl) hRf, Nat.le_trans (Nat.le_of_ble_eq_true rfl) hRl⟩ hKK hSS hS hA hP hD [16, 1, 2, 3, 4, 5, 6, 7] (by decide) rfl rfl rfl 16 rfl rfl hl.1 rfl (Nat.le_of_ble_eq_true rfl) dX7_palms_114) hP hD hS hA [16, 1, 2, 3, 4, 5, 6, 7] [0, 8, 9, 10, 11, 12, 13, 14, 15] [0, 10, 11, 12, 13, 14, 15, 16, 1, 2, 3, 4, 5, 6, 7, 8, 9] rfl rfl (by decide) (by decide) (by decide) (fun _ => rfl) (fun  u H locs hw hP hD hS => ?_)
                      obtain ⟨sw2_37, sh2_38⟩ := u
                      have hP : va_P G.1 vwCl [(h0, .inr (7, [.ref e0, .ref t, .ref k, .ref n, .ref j, .ref i0, .int kp, .ref b0, .ref s0, .ref q, .ref g])), (t, .inr (6, [.int ns, .int np, .int fu, .int fd, .int fi, .ref t1, .ref t2, .ref t3, .ref t4, .ref t5, .ref t6])), aI G t1 9 sz_, aI G t2 9 pt, aI G t3 9 fh, aI G t4 8 kd, aI G t5 8 nd, aI G t6 8 fw, (n, .inr (1, [.ref n1, .ref n2, .ref n3, .ref n4, .ref n5, .ref n6, .ref n7, .int lo, .int mi, .int sd])), aI G n1 9 ht, aI G n2 8 wm, aI G n3 8 se, aI G n4 8 cd, aI G n5 8 sl, aI G n6 8 od, aI G n7 72 ow, (s0, .inr (4, [.int sw2_37, .int sh2_38]))] H := hP
                      have hD : va_D A [(h0, .inr (7, [.ref e0, .ref t, .ref k, .ref n, .ref j, .ref i0, .int kp, .ref b0, .ref s0, .ref q, .ref g])), (t, .inr (6, [.int ns, .int np, .int fu, .int fd, .int fi, .ref t1, .ref t2, .ref t3, .ref t4, .ref t5, .ref t6])), aI G t1 9 sz_, aI G t2 9 pt, aI G t3 9 fh, aI G t4 8 kd, aI G t5 8 nd, aI G t6 8 fw, (n, .inr (1, [.ref n1, .ref n2, .ref n3, .ref n4, .ref n5, .ref n6, .ref n7, .int lo, .int mi, .int sd])), aI G n1 9 ht, aI G n2 8 wm, aI G n3 8 se, aI G n4 8 cd, aI G n5 8 sl, aI G n6 8 od, aI G n7 72 ow, (s0, .inr (4, [.int sw2_37, .int sh2_38]))] := hD
                      have hv := hv sw2_37 sh2_38 hw
                      refine lv_aload_n hx hb dX7_palms_117 rfl (lv_at hl 3 rfl) ?_
                      refine va_get (D := G.1) (ci := 7) (v := .ref t) (C := RX7) (T := TX7) (N := 11) hx hb hts hinX7 hown hKK.1 hP 0 rfl rfl 1 (by decide) kl19 (fun _ h9 => h9) rfl dX7_palms_118 ?_
                      refine lv_iload_n hx hb dX7_palms_121 rfl (lv_at hl 4 rfl) ?_
                      refine lv_aload_n hx hb dX7_palms_122 rfl (lv_at hl 3 rfl) ?_
                      refine va_get (D := G.1) (ci := 7) (v := .ref s0) (C := RX7) (T := TX7) (N := 11) hx hb hts hinX7 hown hKK.1 hP 0 rfl rfl 8 (by decide) kl50 (fun _ h9 => h9) rfl dX7_palms_123 ?_
                      refine va_get (D := G.1) (ci := 4) (v := .int sh2_38) (C := RX4) (T := TX4) (N := 2) hx hb hts hinX4 hown hKK.1 hP 16 rfl rfl 1 (by decide) kl217 (fun _ h9 => h9) rfl dX7_palms_126 ?_
                      refine lv_iload_n hx hb dX7_palms_129 rfl (lv_at hl 5 rfl) ?_
                      refine lv_iload hx hb dX7_palms_130 (lv_at hl 0 rfl) ?_
                      refine lv_isub hx hb dX7_palms_132 ?_
                      obtain ⟨gT_39, gNs_40, gNp_41, gib_42, gkq_43, gHh_44, hv⟩ := hv
                      obtain ⟨hp, hv⟩ := hv
                      refine x_calliR (x_runV (As := [.int x, .int sh2_38, .int (y - x8_25)]) (rest := []) (n := 3) (C := RX6) (ci := 6) ⟨hx, hb, hml, hown, hts⟩ (k_X6_heatLeft l G t t1 t2 t3 t4 t5 t6 _ ns np fu fd fi sz_ pt fh kd nd fw x sh2_38 (y - x8_25) gT_39 gNs_40 gNp_41 gib_42 gkq_43 gHh_44 hp) gX7_palms_X6_heatLeft rfl (by decide +kernel) ⟨Nat.le_trans (Nat.le_of_ble_eq_true rfl) hRf, Nat.le_trans (Nat.le_of_ble_eq_true rfl) hRl⟩ hKK hSS hS hA hP hD [1, 2, 3, 4, 5, 6, 7] (by decide) rfl rfl rfl 1 rfl rfl hl.1 rfl (Nat.le_of_ble_eq_true rfl) dX7_palms_133) hP hD hS hA [1, 2, 3, 4, 5, 6, 7] rfl (fun r_45 _ H locs hw hP hS => ?_)
                      have hv := hv r_45 hw
                      refine lv_istore (lv' := [(9, .int r_45), (8, .int x8_25), (7, .int x7_12), (6, .int x6_24), (0, .ref h0), (1, .int x), (2, .int y), (3, .int w0), (4, .int w1), (5, .int w2)]) hx hb dX7_palms_136 hl (by decide) rfl (fun ls hl => ?_)
                      refine lv_iload hx hb dX7_palms_138 (lv_at hl 0 rfl) ?_
                      refine lv_iload_n hx hb dX7_palms_140 rfl (lv_at hl 7 rfl) ?_
                      refine lv_isub hx hb dX7_palms_141 ?_
                      refine va_mabs hx hb (hml.trans hl.1.symm) hown kl223 km_s_abs km_i km_c_abs (Nat.le_trans (Nat.le_of_ble_eq_true rfl) hRf) (Nat.le_trans (Nat.le_of_ble_eq_true rfl) hRl) (Nat.zero_le _) (Nat.zero_le _) dX7_palms_142 ?_
                      refine lv_iload hx hb dX7_palms_145 (lv_at hl 8 rfl) ?_
                      refine lv_icmp_gt (tgt := 169) hx hb dX7_palms_147 (by decide) (fun hc_46 => ?_) (fun hc_46 => ?_)
                      · have hv := hv.1 hc_46
                        refine lv_iinc (v := (x8_25 + 1)) (lv' := [(8, .int (x8_25 + 1)), (9, .int r_45), (7, .int x7_12), (6, .int x6_24), (0, .ref h0), (1, .int x), (2, .int y), (3, .int w0), (4, .int w1), (5, .int w2)]) hx hb dX7_palms_169 hl (k := 1) rfl rfl (by decide) rfl (fun ls hl => ?_)
                        refine lv_goto (tgt := 97) hx hb dX7_palms_172 (by decide) ?_
                        exact ih_28 _ _ _ _ _ _ _ (Nat.lt_of_lt_of_le hv.2 (Nat.le_of_lt_succ hI_29)) hv.1 hP hD hS (lv_sub hl [0, 2, 3, 4, 5, 6, 7, 8, 9] rfl)
                      · have hv := hv.2 hc_46
                        refine lv_iload hx hb dX7_palms_150 (lv_at hl 3 rfl) ?_
                        refine lv_iload hx hb dX7_palms_152 (lv_at hl 9 rfl) ?_
                        refine lv_icmp_ne (tgt := 166) hx hb dX7_palms_154 (by decide) (fun hc_47 => ?_) (fun hc_47 => ?_)
                        · have hv := hv.1 hc_47
                          refine lv_iinc (v := (x6_24 + 1)) (lv' := [(6, .int (x6_24 + 1)), (9, .int r_45), (8, .int x8_25), (7, .int x7_12), (0, .ref h0), (1, .int x), (2, .int y), (3, .int w0), (4, .int w1), (5, .int w2)]) hx hb dX7_palms_166 hl (k := 3) rfl rfl (by decide) rfl (fun ls hl => ?_)
                          refine lv_iinc (v := (x8_25 + 1)) (lv' := [(8, .int (x8_25 + 1)), (6, .int (x6_24 + 1)), (9, .int r_45), (7, .int x7_12), (0, .ref h0), (1, .int x), (2, .int y), (3, .int w0), (4, .int w1), (5, .int w2)]) hx hb dX7_palms_169 hl (k := 2) rfl rfl (by decide) rfl (fun ls hl => ?_)
                          refine lv_goto (tgt := 97) hx hb dX7_palms_172 (by decide) ?_
                          exact ih_28 _ _ _ _ _ _ _ (Nat.lt_of_lt_of_le hv.2 (Nat.le_of_lt_succ hI_29)) hv.1 hP hD hS (lv_sub hl [0, 3, 1, 4, 5, 6, 7, 8, 9] rfl)
                        · have hv := hv.2 hc_47
                          refine lv_bipush (v := 100) hx hb dX7_palms_157 (by decide) ?_
                          refine lv_iload hx hb dX7_palms_159 (lv_at hl 2 rfl) ?_
                          refine lv_imul hx hb dX7_palms_161 ?_
                          refine lv_iload hx hb dX7_palms_162 (lv_at hl 1 rfl) ?_
                          refine lv_iadd hx hb dX7_palms_164 ?_
                          exact x_iret (v := ((100 * x7_12) + x8_25)) (sw2_37, sh2_38) hQ hx hb hr hlocks hS dX7_palms_165 hv hP hD
                exact Lm_50 _ _ _ _ _ _ _ _ (Nat.lt_succ_self _) hi0 hP hD hS hl
          exact Lm_53 _ _ _ _ _ _ _ _ (Nat.lt_succ_self _) hi0 hP hD hS hl
        · have hv := hv.2 (tv_eq.mp hc_8)
          refine lv_ldc (v := (-1000000002)) hx hb hown kl72 dX7_palms_47 ?_
          exact x_iret (v := (-1000000002)) (sw, sh) hQ hx hb hr hlocks hS dX7_palms_49 hv hP hD
  · have hv := hv.2 (tv_eq.mp hc_2)
    refine lv_ldc (v := (-1000000001)) hx hb hown kl143 dX7_palms_11 ?_
    exact x_iret (v := (-1000000001)) (sw, sh) hQ hx hb hr hlocks hS dX7_palms_13 hv hP hD
theorem v_X7_palms (l : Launch) (G : Gt) (h0 t t1 t2 t3 t4 t5 t6 n n1 n2 n3 n4 n5 n6 n7 s0 : Nat) (sz : Nat) (e0 : Nat) (k : Nat) (j : Nat) (i0 : Nat) (b0 : Nat) (q : Nat) (g : Nat) (kp : Int32) (ns : Int32) (np : Int32) (fu : Int32) (fd : Int32) (fi : Int32) (sz_ : Nat → Int32) (pt : Nat → Int32) (fh : Nat → Int32) (kd : Nat → Int32) (nd : Nat → Int32) (fw : Nat → Int32) (ht : Nat → Int32) (wm : Nat → Int32) (se : Nat → Int32) (cd : Nat → Int32) (sl : Nat → Int32) (od : Nat → Int32) (ow : Nat → Int32) (lo : Int32) (mi : Int32) (sd : Int32) (sw : Int32) (sh : Int32) (x : Int32) (y : Int32) (w0 : Int32) (w1 : Int32) (w2 : Int32) (T : Nat → Nat → Int) (Ns : Nat) (Np : Nat) (v : Nat → Int) (M : Int) (hp : TOK T Ns Np ∧ CT T Ns Np ns np fu fd fi sz_ pt kd nd ∧ CN Ns Np v ht wm se cd sl od ow lo mi sd ∧ NOK T Ns Np (fun _ => 2 * M) M v ∧ M ≤ 900000) : (¬ x < 0 ∧ ¬ ns ≤ x → (¬ (¬ y < 1 ∧ ¬ 60 < y) → ((-1000000002) : Int32).toInt = aPalms T Ns Np v x.toInt y.toInt w0.toInt w1.toInt w2.toInt) ∧ (¬ y < 1 ∧ ¬ 60 < y → (¬ (¬ w0 < 0 ∧ ¬ 9999 < w0) → ((-1000000002) : Int32).toInt = aPalms T Ns Np v x.toInt y.toInt w0.toInt w1.toInt w2.toInt) ∧ (¬ w0 < 0 ∧ ¬ 9999 < w0 → (¬ w1 < 0 ∧ ¬ 9999 < w1 → ∃ (I56_13 : Int32 → Int32 → Int32 → Int32 → Prop) (μ56_14 : Int32 → Int32 → Int32 → Int32 → Nat), I56_13 sw sh 0 0 ∧ (∀ (gs00_9 : Int32) (gs01_10 : Int32) (x6_11 : Int32) (x7_12 : Int32), I56_13 gs00_9 gs01_10 x6_11 x7_12 → (np ≤ x7_12 → (¬ w2 = (-1) → ((-1) : Int32).toInt = aPalms T Ns Np v x.toInt y.toInt w0.toInt w1.toInt w2.toInt) ∧ (w2 = (-1) → x6_11.toInt = aPalms T Ns Np v x.toInt y.toInt w0.toInt w1.toInt w2.toInt)) ∧ (¬ (np ≤ x7_12) → (vp_in x7_12 8) ∧ ((vp_in x 9) ∧ (∃ (I97_26 : Int32 → Int32 → Int32 → Int32 → Prop) (μ97_27 : Int32 → Int32 → Int32 → Int32 → Nat), I97_26 (wm x7_12.toNatClampNeg) (ht x.toNatClampNeg) x6_11 1 ∧ (∀ (gs00_22 : Int32) (gs01_23 : Int32) (x6_24 : Int32) (x8_25 : Int32), I97_26 gs00_22 gs01_23 x6_24 x8_25 → (y < x8_25 → I56_13 gs00_22 gs01_23 x6_24 (x7_12 + 1) ∧ μ56_14 gs00_22 gs01_23 x6_24 (x7_12 + 1) < μ56_14 gs00_9 gs01_10 x6_11 x7_12) ∧ (¬ (y < x8_25) → ∃ (gT_31 : Nat → Nat → Int) (gNs_32 : Nat) (gNp_33 : Nat) (gip_34 : Nat) (gxx_35 : Int × Int), ((TOK gT_31 gNs_32 gNp_33 ∧ CT gT_31 gNs_32 gNp_33 ns np fu fd fi sz_ pt kd nd ∧ x7_12 = nI gip_34 ∧ gip_34 < gNp_33 ∧ SOK gT_31 gNs_32 x.toInt gxx_35 ∧ gs00_22.toInt = gxx_35.1 ∧ gs01_23.toInt = gxx_35.2) ∧ (∀ (sw2_37 : Int32) (sh2_38 : Int32), (sw2_37.toInt = (zSt gT_31 gip_34 x.toInt gxx_35).1 ∧ sh2_38.toInt = (zSt gT_31 gip_34 x.toInt gxx_35).2) → (∃ (gT_39 : Nat → Nat → Int) (gNs_40 : Nat) (gNp_41 : Nat) (gib_42 : Nat) (gkq_43 : Nat) (gHh_44 : Int), ((TOK gT_39 gNs_40 gNp_41 ∧ CT gT_39 gNs_40 gNp_41 ns np fu fd fi sz_ pt kd nd ∧ x = nI gib_42 ∧ gib_42 < gNs_40 ∧ sh2_38.toInt = gHh_44 ∧ 0 ≤ gHh_44 ∧ gHh_44 ≤ 9999 ∧ (y - x8_25) = nI gkq_43 ∧ gkq_43 < 1000) ∧ (∀ (r_45 : Int32), (r_45.toInt = zLos gT_39 gib_42 gHh_44 gkq_43) → ((w1 < ((if 0 ≤ (r_45 - w0) then (r_45 - w0) else 0 - (r_45 - w0)) : Int32) → I97_26 sw2_37 sh2_38 x6_24 (x8_25 + 1) ∧ μ97_27 sw2_37 sh2_38 x6_24 (x8_25 + 1) < μ97_27 gs00_22 gs01_23 x6_24 x8_25) ∧ (¬ (w1 < ((if 0 ≤ (r_45 - w0) then (r_45 - w0) else 0 - (r_45 - w0)) : Int32)) → (¬ x6_24 = w2 → I97_26 sw2_37 sh2_38 (x6_24 + 1) (x8_25 + 1) ∧ μ97_27 sw2_37 sh2_38 (x6_24 + 1) (x8_25 + 1) < μ97_27 gs00_22 gs01_23 x6_24 x8_25) ∧ (x6_24 = w2 → ((100 * x7_12) + x8_25).toInt = aPalms T Ns Np v x.toInt y.toInt w0.toInt w1.toInt w2.toInt))))))))))))))) ∧ (¬ (¬ w1 < 0 ∧ ¬ 9999 < w1) → ((-1000000002) : Int32).toInt = aPalms T Ns Np v x.toInt y.toInt w0.toInt w1.toInt w2.toInt)))) ∧ (¬ (¬ x < 0 ∧ ¬ ns ≤ x) → ((-1000000001) : Int32).toInt = aPalms T Ns Np v x.toInt y.toInt w0.toInt w1.toInt w2.toInt) := by
  obtain ⟨hT, hC, hN, hO, hM⟩ := hp
  have t1 := hT.1
  have t2 := hT.2.1
  have hns : ns = nI Ns := hC.1
  have hnp : np = nI Np := hC.2.1
  have hs_ := hs_iff (x := x) hns (by omega)
  have hy_ : (¬ y < 1 ∧ ¬ 60 < y) ↔ (1 ≤ y.toInt ∧ y.toInt ≤ 60) := wi_iff rfl rfl
  have h0_ : (¬ w0 < 0 ∧ ¬ 9999 < w0) ↔ (0 ≤ w0.toInt ∧ w0.toInt ≤ 9999) := wi_iff rfl rfl
  have h1_ : (¬ w1 < 0 ∧ ¬ 9999 < w1) ↔ (0 ≤ w1.toInt ∧ w1.toInt ≤ 9999) := wi_iff rfl rfl
  simp only [hs_, hy_, h0_, h1_]
  refine ⟨fun hx => ⟨fun h => by rw [aPalms, if_pos hx, if_neg (fun z => h z.1)]; rfl, fun hy => ⟨fun h => by rw [aPalms, if_pos hx, if_neg (fun z => h z.2.1)]; rfl, fun hw0 => ⟨fun hw1 => ?_, fun h => by rw [aPalms, if_pos hx, if_neg (fun z => h z.2.2)]; rfl⟩⟩⟩, fun h => by rw [aPalms, if_neg h]; rfl⟩
  rw [aPalms, if_pos hx, if_pos ⟨hy, hw0, hw1⟩]
  obtain ⟨b, hb, rfl, hxi, hxt⟩ := in_nat hx (by omega)
  obtain ⟨m, hm, rfl, hyi, hyt⟩ := in_nat (x := y) (n := 61) (by omega) (by omega)
  rw [hxt, hyt]
  have cb : (nI b).toNatClampNeg = b := nI_clamp (by omega)
  have vb : vp_in (nI b) 9 := vp_in_nI (by omega) (by omega)
  have hb1 := hO.1 b hb
  have a3 := hT.2.2.1 b hb
  generalize hmt : pMt T v b m w0.toInt w1.toInt = mt
  refine ⟨fun _ _ c z => ∃ p, p ≤ Np ∧ z = nI p ∧ (pOut mt w2.toInt m p).2 = none ∧ c.toInt = (pOut mt w2.toInt m p).1 ∧ 0 ≤ c.toInt ∧ c.toInt ≤ p * 60, fun _ _ _ z => 9 - z.toNatClampNeg, ⟨0, by omega, rfl, rfl, rfl, by decide, by decide⟩, ?_⟩
  rintro f0 f1 c z ⟨p, hp, rfl, hn0, hc0, hc1, hc2⟩
  have ep : (nI p).toNatClampNeg = p := nI_clamp (by omega)
  have ep1 : nI p + 1 = nI (p + 1) := nI_1 p
  have ep2 : (nI (p + 1)).toNatClampNeg = p + 1 := nI_clamp (by omega)
  simp only [ep, ep1, ep2, cb, hnp]
  refine ⟨fun h => ?_, fun h => ?_⟩
  · have e : Np = p := by have := (nI_leI (a := Np) (b := p) (by omega) (by omega)).mp h; omega
    subst e
    have hw2 : w2 = -1 ↔ w2.toInt = -1 := i_eq rfl rfl
    refine ⟨fun q => ?_, fun q => ?_⟩
    · rw [pAns, hn0]; dsimp only; rw [if_neg (fun z => q (hw2.mpr z))]; rfl
    · rw [pAns, hn0]; dsimp only; rw [if_pos (hw2.mp q)]; exact hc0
  have hlt : p < Np := by
    rcases Nat.lt_or_ge p Np with q | q
    · exact q
    · exact absurd ((nI_leI (by omega) (by omega)).mpr q) h
  have bw := (nok_p hO hlt).1
  have hS0 : SOK T Ns (b : Int) (v (10 + p), v b) := ⟨bw.1, bw.2, by omega, by omega, fun _ => by rw [Int.toNat_natCast]; exact hb1⟩
  refine ⟨vp_in_nI (by omega) (by omega), vb, fun sw sh c z => ∃ j, j ≤ m ∧ z = nI (j + 1) ∧ (pIn mt w2.toInt p (pOut mt w2.toInt m p) j).2 = none ∧ c.toInt = (pIn mt w2.toInt p (pOut mt w2.toInt m p) j).1 ∧ 0 ≤ c.toInt ∧ c.toInt ≤ p * 60 + j ∧ sw.toInt = (zSts T p (b : Int) (v (10 + p), v b) j).1 ∧ sh.toInt = (zSts T p (b : Int) (v (10 + p), v b) j).2, fun _ _ _ z => 61 - z.toNatClampNeg, ⟨0, by omega, rfl, hn0, hc0, hc1, by omega, hN.w t2 hlt, hN.h t1 hb⟩, ?_⟩
  rintro sw sh c z ⟨j, hj, rfl, hn, hc, hc3, hc4, hsw, hsh⟩
  have ej : (nI (j + 1)).toNatClampNeg = j + 1 := nI_clamp (by omega)
  have ej1 : nI (j + 1) + 1 = nI (j + 1 + 1) := nI_1 (j + 1)
  have ej2 : (nI (j + 1 + 1)).toNatClampNeg = j + 1 + 1 := nI_clamp (by omega)
  simp only [ej1, ej2, ej]
  have hlm : nI m < nI (j + 1) ↔ m < j + 1 := by
    rw [i_lt (nI_toInt (by omega)) (nI_toInt (by omega))]; omega
  rw [hlm]
  refine ⟨fun q => ?_, fun q => ?_⟩
  · have e : j = m := by omega
    subst e
    exact ⟨⟨p + 1, by omega, rfl, hn, hc, hc3, by omega⟩, by omega⟩
  have hSj := zSts_ok hT hlt hS0 j
  refine ⟨T, Ns, Np, p, zSts T p (b : Int) (v (10 + p), v b) j, ⟨hT, by rw [← hnp]; exact hC, rfl, hlt, by rw [hxi]; exact hSj, hsw, hsh⟩, fun sw2 sh2 hs2 => ?_⟩
  rw [hxi] at hs2
  have hs3 : sw2.toInt = (zSts T p (b : Int) (v (10 + p), v b) (j + 1)).1 ∧ sh2.toInt = (zSts T p (b : Int) (v (10 + p), v b) (j + 1)).2 := hs2
  have hSj1 := zSts_ok hT hlt hS0 (j + 1)
  have hb2 := hSj1.2.2.2.2 (by omega)
  rw [Int.toNat_natCast] at hb2
  have emj : nI m - nI (j + 1) = nI (m - (j + 1)) := by
    rw [← Int32.toInt_inj, i_sub (nI_toInt (by omega)) (nI_toInt (by omega)) (by omega) (by omega), nI_toInt (by omega)]; omega
  refine ⟨T, Ns, Np, b, m - (j + 1), (zSts T p (b : Int) (v (10 + p), v b) (j + 1)).2, ⟨hT, by rw [← hnp]; exact hC, rfl, hb, hs3.2, hb2.1, by omega, emj, by omega⟩, fun r hr => ?_⟩
  have hfb := zLos_bd hT hb hb2.1 (show (zSts T p (b : Int) (v (10 + p), v b) (j + 1)).2 ≤ 9999 by omega) (m - (j + 1))
  have hr2 : r.toInt = pFelt T v b m p (j + 1) := hr
  have hmt2 : mt p (j + 1) = true ↔ (w0.toInt - w1.toInt ≤ pFelt T v b m p (j + 1) ∧ pFelt T v b m p (j + 1) ≤ w0.toInt + w1.toInt) := by rw [← hmt]; exact decide_eq_true_iff
  have fb2 : 0 ≤ pFelt T v b m p (j + 1) ∧ pFelt T v b m p (j + 1) ≤ 9999 := hfb
  generalize pFelt T v b m p (j + 1) = fe at hr2 hmt2 fb2
  have ed : (r - w0).toInt = fe - w0.toInt := i_sub hr2 rfl (by omega) (by omega)
  have en : (0 - (r - w0)).toInt = 0 - (fe - w0.toInt) := i_sub i32_0 ed (by omega) (by omega)
  have eab : (if 0 ≤ r - w0 then r - w0 else 0 - (r - w0)).toInt = if 0 ≤ fe - w0.toInt then fe - w0.toInt else 0 - (fe - w0.toInt) := i_if (i_le i32_0 ed) ed en
  have hcmp : (w1 < (if 0 ≤ r - w0 then r - w0 else 0 - (r - w0))) ↔ ¬ mt p (j + 1) = true := by
    rw [i_lt (show w1.toInt = w1.toInt from rfl) eab, hmt2]
    split <;> omega
  rw [hcmp]
  have hcw : c = w2 ↔ (pIn mt w2.toInt p (pOut mt w2.toInt m p) j).1 = w2.toInt := i_eq hc rfl
  refine ⟨fun q1 => ⟨⟨j + 1, by omega, rfl, ?_, ?_, hc3, by omega, hs3.1, hs3.2⟩, by omega⟩, fun q1 => ⟨fun q2 => ⟨⟨j + 1, by omega, rfl, ?_, ?_, ?_, ?_, hs3.1, hs3.2⟩, by omega⟩, fun q2 => ?_⟩⟩
  · rw [pIn, pStep_no q1]; exact hn
  · rw [pIn, pStep_no q1]; exact hc
  · rw [pIn, pStep_more hn (Classical.not_not.mp q1) (fun z => q2 (hcw.mpr z))]
  · rw [pIn, pStep_more hn (Classical.not_not.mp q1) (fun z => q2 (hcw.mpr z))]
    exact i_add hc i32_1 (by omega) (by omega)
  · rw [i_add (show c.toInt = c.toInt from rfl) i32_1 (by omega) (by omega)]; omega
  · rw [i_add (show c.toInt = c.toInt from rfl) i32_1 (by omega) (by omega)]; omega
  · have h3 := pStep_hit hn (Classical.not_not.mp q1) (hcw.mp q2)
    rw [pAns_in (p := p) (j := j + 1) hlt (by omega) (by rw [pIn, h3])]
    rw [i_add (i_mul (show (100 : Int32).toInt = 100 from rfl) (nI_toInt (by omega)) (by omega) (by omega)) (nI_toInt (by omega)) (by omega) (by omega)]
theorem k_X7_palms (l : Launch) (G : Gt) (h0 t t1 t2 t3 t4 t5 t6 n n1 n2 n3 n4 n5 n6 n7 s0 : Nat) (sz : Nat) (e0 : Nat) (k : Nat) (j : Nat) (i0 : Nat) (b0 : Nat) (q : Nat) (g : Nat) (kp : Int32) (ns : Int32) (np : Int32) (fu : Int32) (fd : Int32) (fi : Int32) (sz_ : Nat → Int32) (pt : Nat → Int32) (fh : Nat → Int32) (kd : Nat → Int32) (nd : Nat → Int32) (fw : Nat → Int32) (ht : Nat → Int32) (wm : Nat → Int32) (se : Nat → Int32) (cd : Nat → Int32) (sl : Nat → Int32) (od : Nat → Int32) (ow : Nat → Int32) (lo : Int32) (mi : Int32) (sd : Int32) (sw : Int32) (sh : Int32) (x : Int32) (y : Int32) (w0 : Int32) (w1 : Int32) (w2 : Int32) (T : Nat → Nat → Int) (Ns : Nat) (Np : Nat) (v : Nat → Int) (M : Int) (hp : TOK T Ns Np ∧ CT T Ns Np ns np fu fd fi sz_ pt kd nd ∧ CN Ns Np v ht wm se cd sl od ow lo mi sd ∧ NOK T Ns Np (fun _ => 2 * M) M v ∧ M ≤ 900000) : MetI l yX7_palms wsX7_palms 3 70 G [.ref h0, .int x, .int y, .int w0, .int w1, .int w2] [(h0, .inr (7, [.ref e0, .ref t, .ref k, .ref n, .ref j, .ref i0, .int kp, .ref b0, .ref s0, .ref q, .ref g])), (t, .inr (6, [.int ns, .int np, .int fu, .int fd, .int fi, .ref t1, .ref t2, .ref t3, .ref t4, .ref t5, .ref t6])), aI G t1 9 sz_, aI G t2 9 pt, aI G t3 9 fh, aI G t4 8 kd, aI G t5 8 nd, aI G t6 8 fw, (n, .inr (1, [.ref n1, .ref n2, .ref n3, .ref n4, .ref n5, .ref n6, .ref n7, .int lo, .int mi, .int sd])), aI G n1 9 ht, aI G n2 8 wm, aI G n3 8 se, aI G n4 8 cd, aI G n5 8 sl, aI G n6 8 od, aI G n7 72 ow, (s0, .inr (4, [.int sw, .int sh]))] sz (fun (r : Int32) (u : (Int32) × (Int32)) => r.toInt = aPalms T Ns Np v x.toInt y.toInt w0.toInt w1.toInt w2.toInt) (fun (u : (Int32) × (Int32)) => [(h0, .inr (7, [.ref e0, .ref t, .ref k, .ref n, .ref j, .ref i0, .int kp, .ref b0, .ref s0, .ref q, .ref g])), (t, .inr (6, [.int ns, .int np, .int fu, .int fd, .int fi, .ref t1, .ref t2, .ref t3, .ref t4, .ref t5, .ref t6])), aI G t1 9 sz_, aI G t2 9 pt, aI G t3 9 fh, aI G t4 8 kd, aI G t5 8 nd, aI G t6 8 fw, (n, .inr (1, [.ref n1, .ref n2, .ref n3, .ref n4, .ref n5, .ref n6, .ref n7, .int lo, .int mi, .int sd])), aI G n1 9 ht, aI G n2 8 wm, aI G n3 8 se, aI G n4 8 cd, aI G n5 8 sl, aI G n6 8 od, aI G n7 72 ow, (s0, .inr (4, [.int u.1, .int u.2]))]) :=
  c_X7_palms l G h0 t t1 t2 t3 t4 t5 t6 n n1 n2 n3 n4 n5 n6 n7 s0 sz e0 k j i0 b0 q g kp ns np fu fd fi sz_ pt fh kd nd fw ht wm se cd sl od ow lo mi sd sw sh x y w0 w1 w2 T Ns Np v M (v_X7_palms l G h0 t t1 t2 t3 t4 t5 t6 n n1 n2 n3 n4 n5 n6 n7 s0 sz e0 k j i0 b0 q g kp ns np fu fd fi sz_ pt fh kd nd fw ht wm se cd sl od ow lo mi sd sw sh x y w0 w1 w2 T Ns Np v M hp)

set_option maxHeartbeats 4000000 in
set_option maxRecDepth 100000 in
theorem c_X7_safe (l : Launch) (G : Gt) (h0 t t1 t2 t3 t4 t5 t6 n n1 n2 n3 n4 n5 n6 n7 j j1 j2 j3 j4 j5 j6 j7 : Nat) (sz : Nat) (e0 : Nat) (k : Nat) (i0 : Nat) (b0 : Nat) (s0 : Nat) (q : Nat) (g : Nat) (kp : Int32) (ns : Int32) (np : Int32) (fu : Int32) (fd : Int32) (fi : Int32) (sz_ : Nat → Int32) (pt : Nat → Int32) (fh : Nat → Int32) (kd : Nat → Int32) (nd : Nat → Int32) (fw : Nat → Int32) (ht : Nat → Int32) (wm : Nat → Int32) (se : Nat → Int32) (cd : Nat → Int32) (sl : Nat → Int32) (od : Nat → Int32) (ow : Nat → Int32) (lo : Int32) (mi : Int32) (sd : Int32) (htj : Nat → Int32) (wmj : Nat → Int32) (sej : Nat → Int32) (cdj : Nat → Int32) (slj : Nat → Int32) (odj : Nat → Int32) (owj : Nat → Int32) (loj : Int32) (mij : Int32) (sdj : Int32) (T : Nat → Nat → Int) (Ns : Nat) (Np : Nat) (v : Nat → Int) (M : Int) (hv : ∃ (gNs_1 : Nat) (gNp_2 : Nat) (gv_3 : Nat → Int), ((CN gNs_1 gNp_2 gv_3 ht wm se cd sl od ow lo mi sd ∧ gNs_1 ≤ 9 ∧ gNp_2 ≤ 8) ∧ (∀ (ht2_5 : Nat → Int32) (wm2_6 : Nat → Int32) (se2_7 : Nat → Int32) (cd2_8 : Nat → Int32) (sl2_9 : Nat → Int32) (od2_10 : Nat → Int32) (ow2_11 : Nat → Int32) (lo2_12 : Int32) (mi2_13 : Int32) (sd2_14 : Int32), (CN gNs_1 gNp_2 gv_3 ht2_5 wm2_6 se2_7 cd2_8 sl2_9 od2_10 ow2_11 lo2_12 mi2_13 sd2_14) → (∃ (I13_24 : (Nat → Int32) → (Nat → Int32) → (Nat → Int32) → (Nat → Int32) → (Nat → Int32) → (Nat → Int32) → Int32 → Int32 → Int32 → Prop) (μ13_25 : (Nat → Int32) → (Nat → Int32) → (Nat → Int32) → (Nat → Int32) → (Nat → Int32) → (Nat → Int32) → Int32 → Int32 → Int32 → Nat), I13_24 ht2_5 wm2_6 cd2_8 sl2_9 od2_10 ow2_11 lo2_12 mi2_13 0 ∧ (∀ (fj1_15 : (Nat → Int32)) (fj2_16 : (Nat → Int32)) (fj4_17 : (Nat → Int32)) (fj5_18 : (Nat → Int32)) (fj6_19 : (Nat → Int32)) (fj7_20 : (Nat → Int32)) (gj7_21 : Int32) (gj8_22 : Int32) (x1_23 : Int32), I13_24 fj1_15 fj2_16 fj4_17 fj5_18 fj6_19 fj7_20 gj7_21 gj8_22 x1_23 → (999 ≤ x1_23 → (999 : Int32) = nI (zSafe T Ns Np v 999)) ∧ (¬ (999 ≤ x1_23) → ∃ (gT_29 : Nat → Nat → Int) (gNs_30 : Nat) (gNp_31 : Nat) (gv_32 : Nat → Int) (gM_33 : Int), ((TOK gT_29 gNs_30 gNp_31 ∧ CT gT_29 gNs_30 gNp_31 ns np fu fd fi sz_ pt kd nd ∧ CN gNs_30 gNp_31 gv_32 fj1_15 fj2_16 se2_7 fj4_17 fj5_18 fj6_19 fj7_20 gj7_21 gj8_22 sd2_14 ∧ NOK gT_29 gNs_30 gNp_31 (fun _ => 2 * gM_33) gM_33 gv_32 ∧ gM_33 ≤ 1000000) ∧ (∀ (r_34 : Int32) (ht2_35 : Nat → Int32) (wm2_36 : Nat → Int32) (cd2_37 : Nat → Int32) (sl2_38 : Nat → Int32) (od2_39 : Nat → Int32) (ow2_40 : Nat → Int32) (lo2_41 : Int32) (mi2_42 : Int32), (r_34 = nI (zCs gT_29 (zPass gT_29 gNs_30 gNp_31 gv_32) gNp_31) ∧ CN gNs_30 gNp_31 (zPass gT_29 gNs_30 gNp_31 gv_32) ht2_35 wm2_36 se2_7 cd2_37 sl2_38 od2_39 ow2_40 lo2_41 mi2_42 sd2_14) → ((r_34 = 0 → I13_24 ht2_35 wm2_36 cd2_37 sl2_38 od2_39 ow2_40 lo2_41 mi2_42 (x1_23 + 1) ∧ μ13_25 ht2_35 wm2_36 cd2_37 sl2_38 od2_39 ow2_40 lo2_41 mi2_42 (x1_23 + 1) < μ13_25 fj1_15 fj2_16 fj4_17 fj5_18 fj6_19 fj7_20 gj7_21 gj8_22 x1_23) ∧ (¬ (r_34 = 0) → x1_23 = nI (zSafe T Ns Np v 999))))))))))) : MetI l yX7_safe wsX7_safe 4 95 G [.ref h0] [(h0, .inr (7, [.ref e0, .ref t, .ref k, .ref n, .ref j, .ref i0, .int kp, .ref b0, .ref s0, .ref q, .ref g])), (t, .inr (6, [.int ns, .int np, .int fu, .int fd, .int fi, .ref t1, .ref t2, .ref t3, .ref t4, .ref t5, .ref t6])), aI G t1 9 sz_, aI G t2 9 pt, aI G t3 9 fh, aI G t4 8 kd, aI G t5 8 nd, aI G t6 8 fw, (n, .inr (1, [.ref n1, .ref n2, .ref n3, .ref n4, .ref n5, .ref n6, .ref n7, .int lo, .int mi, .int sd])), aI G n1 9 ht, aI G n2 8 wm, aI G n3 8 se, aI G n4 8 cd, aI G n5 8 sl, aI G n6 8 od, aI G n7 72 ow, (j, .inr (1, [.ref j1, .ref j2, .ref j3, .ref j4, .ref j5, .ref j6, .ref j7, .int loj, .int mij, .int sdj])), aI G j1 9 htj, aI G j2 8 wmj, aI G j3 8 sej, aI G j4 8 cdj, aI G j5 8 slj, aI G j6 8 odj, aI G j7 72 owj] sz (fun (r : Int32) (u : (Nat → Int32) × (Nat → Int32) × (Nat → Int32) × (Nat → Int32) × (Nat → Int32) × (Nat → Int32) × (Nat → Int32) × (Int32) × (Int32) × (Int32)) => r = nI (zSafe T Ns Np v 999)) (fun (u : (Nat → Int32) × (Nat → Int32) × (Nat → Int32) × (Nat → Int32) × (Nat → Int32) × (Nat → Int32) × (Nat → Int32) × (Int32) × (Int32) × (Int32)) => [(h0, .inr (7, [.ref e0, .ref t, .ref k, .ref n, .ref j, .ref i0, .int kp, .ref b0, .ref s0, .ref q, .ref g])), (t, .inr (6, [.int ns, .int np, .int fu, .int fd, .int fi, .ref t1, .ref t2, .ref t3, .ref t4, .ref t5, .ref t6])), aI G t1 9 sz_, aI G t2 9 pt, aI G t3 9 fh, aI G t4 8 kd, aI G t5 8 nd, aI G t6 8 fw, (n, .inr (1, [.ref n1, .ref n2, .ref n3, .ref n4, .ref n5, .ref n6, .ref n7, .int lo, .int mi, .int sd])), aI G n1 9 ht, aI G n2 8 wm, aI G n3 8 se, aI G n4 8 cd, aI G n5 8 sl, aI G n6 8 od, aI G n7 72 ow, (j, .inr (1, [.ref j1, .ref j2, .ref j3, .ref j4, .ref j5, .ref j6, .ref j7, .int u.2.2.2.2.2.2.2.1, .int u.2.2.2.2.2.2.2.2.1, .int u.2.2.2.2.2.2.2.2.2])), aI G j1 9 u.1, aI G j2 8 u.2.1, aI G j3 8 u.2.2.1, aI G j4 8 u.2.2.2.1, aI G j5 8 u.2.2.2.2.1, aI G j6 8 u.2.2.2.2.2.1, aI G j7 72 u.2.2.2.2.2.2.1]) := by
  refine x_startI (cc := cX7_safe) (maxL := 2) (ret := (some .int)) (by decide) rfl (Nat.le_of_ble_eq_true rfl) ?_
  intro p e s m args below meth c A R Q ls hRf hRl hQ C hP hD hS hA hSS hl
  obtain ⟨hx, hb, hr, hml, hown, hts, hlocks, hKK⟩ := C
  have hown : s.vm.findClass RX7 = some m.cls := hown
  have hl : lv_has ls 2 [(0, .ref h0)] := hl
  have hinX7 : ∀ w ∈ u_ws RX7 TX7 11, w ∈ wsX7_safe := by decide +kernel
  have kl19 := hts (.fieldLink RX7 19 "WarmStones" "town" "LWarmStones$Town;") (by decide +kernel)
  have kl29 := hts (.fieldLink RX7 29 "WarmStones" "night" "LWarmStones$Night;") (by decide +kernel)
  have kl33 := hts (.fieldLink RX7 33 "WarmStones" "trial" "LWarmStones$Night;") (by decide +kernel)
  refine lv_aload_n hx hb dX7_safe_0 rfl (lv_at hl 0 rfl) ?_
  refine va_get (D := G.1) (ci := 7) (v := .ref j) (C := RX7) (T := TX7) (N := 11) hx hb hts hinX7 hown hKK.1 hP 0 rfl rfl 4 (by decide) kl33 (fun _ h9 => h9) rfl dX7_safe_1 ?_
  refine lv_aload_n hx hb dX7_safe_4 rfl (lv_at hl 0 rfl) ?_
  refine va_get (D := G.1) (ci := 7) (v := .ref n) (C := RX7) (T := TX7) (N := 11) hx hb hts hinX7 hown hKK.1 hP 0 rfl rfl 3 (by decide) kl29 (fun _ h9 => h9) rfl dX7_safe_5 ?_
  obtain ⟨gNs_1, gNp_2, gv_3, hv⟩ := hv
  obtain ⟨hp, hv⟩ := hv
  refine x_callv (wr := [(h0, .inr (7, [.ref e0, .ref t, .ref k, .ref n, .ref j, .ref i0, .int kp, .ref b0, .ref s0, .ref q, .ref g])), (t, .inr (6, [.int ns, .int np, .int fu, .int fd, .int fi, .ref t1, .ref t2, .ref t3, .ref t4, .ref t5, .ref t6])), aI G t1 9 sz_, aI G t2 9 pt, aI G t3 9 fh, aI G t4 8 kd, aI G t5 8 nd, aI G t6 8 fw]) (w' := fun (u : (Nat → Int32) × (Nat → Int32) × (Nat → Int32) × (Nat → Int32) × (Nat → Int32) × (Nat → Int32) × (Nat → Int32) × (Int32) × (Int32) × (Int32)) => [(h0, .inr (7, [.ref e0, .ref t, .ref k, .ref n, .ref j, .ref i0, .int kp, .ref b0, .ref s0, .ref q, .ref g])), (t, .inr (6, [.int ns, .int np, .int fu, .int fd, .int fi, .ref t1, .ref t2, .ref t3, .ref t4, .ref t5, .ref t6])), aI G t1 9 sz_, aI G t2 9 pt, aI G t3 9 fh, aI G t4 8 kd, aI G t5 8 nd, aI G t6 8 fw, (n, .inr (1, [.ref n1, .ref n2, .ref n3, .ref n4, .ref n5, .ref n6, .ref n7, .int lo, .int mi, .int sd])), aI G n1 9 ht, aI G n2 8 wm, aI G n3 8 se, aI G n4 8 cd, aI G n5 8 sl, aI G n6 8 od, aI G n7 72 ow, (j, .inr (1, [.ref j1, .ref j2, .ref j3, .ref j4, .ref j5, .ref j6, .ref j7, .int u.2.2.2.2.2.2.2.1, .int u.2.2.2.2.2.2.2.2.1, .int u.2.2.2.2.2.2.2.2.2])), aI G j1 9 u.1, aI G j2 8 u.2.1, aI G j3 8 u.2.2.1, aI G j4 8 u.2.2.2.1, aI G j5 8 u.2.2.2.2.1, aI G j6 8 u.2.2.2.2.2.1, aI G j7 72 u.2.2.2.2.2.2.1]) (x_runV (As := [.ref n]) (rest := []) (n := 1) (C := RX1) (ci := 1) ⟨hx, hb, hml, hown, hts⟩ (k_X1_copyFrom l G j j1 j2 j3 j4 j5 j6 j7 n n1 n2 n3 n4 n5 n6 n7 _ htj wmj sej cdj slj odj owj loj mij sdj ht wm se cd sl od ow lo mi sd gNs_1 gNp_2 gv_3 hp) gX7_safe_X1_copyFrom rfl (by decide +kernel) ⟨Nat.le_trans (Nat.le_of_ble_eq_true rfl) hRf, Nat.le_trans (Nat.le_of_ble_eq_true rfl) hRl⟩ hKK hSS hS hA hP hD [16, 17, 18, 19, 20, 21, 22, 23, 8, 9, 10, 11, 12, 13, 14, 15] (by decide) rfl rfl rfl 16 rfl rfl hl.1 rfl (Nat.le_of_ble_eq_true rfl) dX7_safe_8) hP hD hS hA [16, 17, 18, 19, 20, 21, 22, 23, 8, 9, 10, 11, 12, 13, 14, 15] [0, 1, 2, 3, 4, 5, 6, 7] [0, 1, 2, 3, 4, 5, 6, 7, 16, 17, 18, 19, 20, 21, 22, 23, 8, 9, 10, 11, 12, 13, 14, 15] rfl rfl (by decide) (by decide) (by decide) (fun _ => rfl) (fun  u H locs hw hP hD hS => ?_)
  obtain ⟨ht2_5, wm2_6, se2_7, cd2_8, sl2_9, od2_10, ow2_11, lo2_12, mi2_13, sd2_14⟩ := u
  have hP : va_P G.1 vwCl [(h0, .inr (7, [.ref e0, .ref t, .ref k, .ref n, .ref j, .ref i0, .int kp, .ref b0, .ref s0, .ref q, .ref g])), (t, .inr (6, [.int ns, .int np, .int fu, .int fd, .int fi, .ref t1, .ref t2, .ref t3, .ref t4, .ref t5, .ref t6])), aI G t1 9 sz_, aI G t2 9 pt, aI G t3 9 fh, aI G t4 8 kd, aI G t5 8 nd, aI G t6 8 fw, (n, .inr (1, [.ref n1, .ref n2, .ref n3, .ref n4, .ref n5, .ref n6, .ref n7, .int lo, .int mi, .int sd])), aI G n1 9 ht, aI G n2 8 wm, aI G n3 8 se, aI G n4 8 cd, aI G n5 8 sl, aI G n6 8 od, aI G n7 72 ow, (j, .inr (1, [.ref j1, .ref j2, .ref j3, .ref j4, .ref j5, .ref j6, .ref j7, .int lo2_12, .int mi2_13, .int sd2_14])), aI G j1 9 ht2_5, aI G j2 8 wm2_6, aI G j3 8 se2_7, aI G j4 8 cd2_8, aI G j5 8 sl2_9, aI G j6 8 od2_10, aI G j7 72 ow2_11] H := hP
  have hD : va_D A [(h0, .inr (7, [.ref e0, .ref t, .ref k, .ref n, .ref j, .ref i0, .int kp, .ref b0, .ref s0, .ref q, .ref g])), (t, .inr (6, [.int ns, .int np, .int fu, .int fd, .int fi, .ref t1, .ref t2, .ref t3, .ref t4, .ref t5, .ref t6])), aI G t1 9 sz_, aI G t2 9 pt, aI G t3 9 fh, aI G t4 8 kd, aI G t5 8 nd, aI G t6 8 fw, (n, .inr (1, [.ref n1, .ref n2, .ref n3, .ref n4, .ref n5, .ref n6, .ref n7, .int lo, .int mi, .int sd])), aI G n1 9 ht, aI G n2 8 wm, aI G n3 8 se, aI G n4 8 cd, aI G n5 8 sl, aI G n6 8 od, aI G n7 72 ow, (j, .inr (1, [.ref j1, .ref j2, .ref j3, .ref j4, .ref j5, .ref j6, .ref j7, .int lo2_12, .int mi2_13, .int sd2_14])), aI G j1 9 ht2_5, aI G j2 8 wm2_6, aI G j3 8 se2_7, aI G j4 8 cd2_8, aI G j5 8 sl2_9, aI G j6 8 od2_10, aI G j7 72 ow2_11] := hD
  have hv := hv ht2_5 wm2_6 se2_7 cd2_8 sl2_9 od2_10 ow2_11 lo2_12 mi2_13 sd2_14 hw
  refine lv_iconst (v := 0) hx hb dX7_safe_11 (by decide) ?_
  refine lv_istore_n (lv' := [(1, .int 0), (0, .ref h0)]) hx hb dX7_safe_12 rfl hl (by decide) rfl (fun ls hl => ?_)
  obtain ⟨I13_24, μ13_25, hi0, hs_44⟩ := hv
  have Lm_46 : ∀ (n_45 : Nat) (fj1_15 : (Nat → Int32)) (fj2_16 : (Nat → Int32)) (fj4_17 : (Nat → Int32)) (fj5_18 : (Nat → Int32)) (fj6_19 : (Nat → Int32)) (fj7_20 : (Nat → Int32)) (gj7_21 : Int32) (gj8_22 : Int32) (x1_23 : Int32) (H : Heap) (locs : List Loc) (ls : Array Slot), μ13_25 fj1_15 fj2_16 fj4_17 fj5_18 fj6_19 fj7_20 gj7_21 gj8_22 x1_23 < n_45 → I13_24 fj1_15 fj2_16 fj4_17 fj5_18 fj6_19 fj7_20 gj7_21 gj8_22 x1_23 → va_P G.1 vwCl [(h0, .inr (7, [.ref e0, .ref t, .ref k, .ref n, .ref j, .ref i0, .int kp, .ref b0, .ref s0, .ref q, .ref g])), (t, .inr (6, [.int ns, .int np, .int fu, .int fd, .int fi, .ref t1, .ref t2, .ref t3, .ref t4, .ref t5, .ref t6])), aI G t1 9 sz_, aI G t2 9 pt, aI G t3 9 fh, aI G t4 8 kd, aI G t5 8 nd, aI G t6 8 fw, (n, .inr (1, [.ref n1, .ref n2, .ref n3, .ref n4, .ref n5, .ref n6, .ref n7, .int lo, .int mi, .int sd])), aI G n1 9 ht, aI G n2 8 wm, aI G n3 8 se, aI G n4 8 cd, aI G n5 8 sl, aI G n6 8 od, aI G n7 72 ow, (j, .inr (1, [.ref j1, .ref j2, .ref j3, .ref j4, .ref j5, .ref j6, .ref j7, .int gj7_21, .int gj8_22, .int sd2_14])), aI G j1 9 fj1_15, aI G j2 8 fj2_16, aI G j3 8 se2_7, aI G j4 8 fj4_17, aI G j5 8 fj5_18, aI G j6 8 fj6_19, aI G j7 72 fj7_20] H → va_D A [(h0, .inr (7, [.ref e0, .ref t, .ref k, .ref n, .ref j, .ref i0, .int kp, .ref b0, .ref s0, .ref q, .ref g])), (t, .inr (6, [.int ns, .int np, .int fu, .int fd, .int fi, .ref t1, .ref t2, .ref t3, .ref t4, .ref t5, .ref t6])), aI G t1 9 sz_, aI G t2 9 pt, aI G t3 9 fh, aI G t4 8 kd, aI G t5 8 nd, aI G t6 8 fw, (n, .inr (1, [.ref n1, .ref n2, .ref n3, .ref n4, .ref n5, .ref n6, .ref n7, .int lo, .int mi, .int sd])), aI G n1 9 ht, aI G n2 8 wm, aI G n3 8 se, aI G n4 8 cd, aI G n5 8 sl, aI G n6 8 od, aI G n7 72 ow, (j, .inr (1, [.ref j1, .ref j2, .ref j3, .ref j4, .ref j5, .ref j6, .ref j7, .int gj7_21, .int gj8_22, .int sd2_14])), aI G j1 9 fj1_15, aI G j2 8 fj2_16, aI G j3 8 se2_7, aI G j4 8 fj4_17, aI G j5 8 fj5_18, aI G j6 8 fj6_19, aI G j7 72 fj7_20] → va_S A s.heap H locs → lv_has ls 2 [(1, .int x1_23), (0, .ref h0)] → W p l e R s m args below meth c H locs 0 0 Q (F0 m 13 ls []) := by
    intro n_45
    induction n_45 with
    | zero => intro fj1_15 fj2_16 fj4_17 fj5_18 fj6_19 fj7_20 gj7_21 gj8_22 x1_23 H locs ls hm; exact absurd hm (Nat.not_lt_zero _)
    | succ n_45 ih_26 =>
      intro fj1_15 fj2_16 fj4_17 fj5_18 fj6_19 fj7_20 gj7_21 gj8_22 x1_23 H locs ls hI_27 hi hP hD hS hl
      have hv := hs_44 fj1_15 fj2_16 fj4_17 fj5_18 fj6_19 fj7_20 gj7_21 gj8_22 x1_23 hi
      refine lv_iload_n hx hb dX7_safe_13 rfl (lv_at hl 0 rfl) ?_
      refine lv_sipush (v := 999) hx hb dX7_safe_14 (by decide) ?_
      refine lv_icmp_ge (tgt := 42) hx hb dX7_safe_17 (by decide) (fun hc_28 => ?_) (fun hc_28 => ?_)
      · have hv := hv.1 hc_28
        refine lv_sipush (v := 999) hx hb dX7_safe_42 (by decide) ?_
        exact x_iret (v := 999) (fj1_15, fj2_16, se2_7, fj4_17, fj5_18, fj6_19, fj7_20, gj7_21, gj8_22, sd2_14) hQ hx hb hr hlocks hS dX7_safe_45 hv hP hD
      · have hv := hv.2 hc_28
        refine lv_aload_n hx hb dX7_safe_20 rfl (lv_at hl 1 rfl) ?_
        refine va_get (D := G.1) (ci := 7) (v := .ref j) (C := RX7) (T := TX7) (N := 11) hx hb hts hinX7 hown hKK.1 hP 0 rfl rfl 4 (by decide) kl33 (fun _ h9 => h9) rfl dX7_safe_21 ?_
        refine lv_aload_n hx hb dX7_safe_24 rfl (lv_at hl 1 rfl) ?_
        refine va_get (D := G.1) (ci := 7) (v := .ref t) (C := RX7) (T := TX7) (N := 11) hx hb hts hinX7 hown hKK.1 hP 0 rfl rfl 1 (by decide) kl19 (fun _ h9 => h9) rfl dX7_safe_25 ?_
        obtain ⟨gT_29, gNs_30, gNp_31, gv_32, gM_33, hv⟩ := hv
        obtain ⟨hp, hv⟩ := hv
        refine x_calli (wr := [(h0, .inr (7, [.ref e0, .ref t, .ref k, .ref n, .ref j, .ref i0, .int kp, .ref b0, .ref s0, .ref q, .ref g])), (n, .inr (1, [.ref n1, .ref n2, .ref n3, .ref n4, .ref n5, .ref n6, .ref n7, .int lo, .int mi, .int sd])), aI G n1 9 ht, aI G n2 8 wm, aI G n3 8 se, aI G n4 8 cd, aI G n5 8 sl, aI G n6 8 od, aI G n7 72 ow]) (w' := fun (u : (Nat → Int32) × (Nat → Int32) × (Nat → Int32) × (Nat → Int32) × (Nat → Int32) × (Nat → Int32) × (Int32) × (Int32)) => [(h0, .inr (7, [.ref e0, .ref t, .ref k, .ref n, .ref j, .ref i0, .int kp, .ref b0, .ref s0, .ref q, .ref g])), (t, .inr (6, [.int ns, .int np, .int fu, .int fd, .int fi, .ref t1, .ref t2, .ref t3, .ref t4, .ref t5, .ref t6])), aI G t1 9 sz_, aI G t2 9 pt, aI G t3 9 fh, aI G t4 8 kd, aI G t5 8 nd, aI G t6 8 fw, (n, .inr (1, [.ref n1, .ref n2, .ref n3, .ref n4, .ref n5, .ref n6, .ref n7, .int lo, .int mi, .int sd])), aI G n1 9 ht, aI G n2 8 wm, aI G n3 8 se, aI G n4 8 cd, aI G n5 8 sl, aI G n6 8 od, aI G n7 72 ow, (j, .inr (1, [.ref j1, .ref j2, .ref j3, .ref j4, .ref j5, .ref j6, .ref j7, .int u.2.2.2.2.2.2.1, .int u.2.2.2.2.2.2.2, .int sd2_14])), aI G j1 9 u.1, aI G j2 8 u.2.1, aI G j3 8 se2_7, aI G j4 8 u.2.2.1, aI G j5 8 u.2.2.2.1, aI G j6 8 u.2.2.2.2.1, aI G j7 72 u.2.2.2.2.2.1]) (x_runV (As := [.ref t]) (rest := []) (n := 1) (C := RX1) (ci := 1) ⟨hx, hb, hml, hown, hts⟩ (k_X1_passMinute l G j j1 j2 j3 j4 j5 j6 j7 t t1 t2 t3 t4 t5 t6 _ fj1_15 fj2_16 se2_7 fj4_17 fj5_18 fj6_19 fj7_20 gj7_21 gj8_22 sd2_14 ns np fu fd fi sz_ pt fh kd nd fw gT_29 gNs_30 gNp_31 gv_32 gM_33 hp) gX7_safe_X1_passMinute rfl (by decide +kernel) ⟨Nat.le_trans (Nat.le_of_ble_eq_true rfl) hRf, Nat.le_trans (Nat.le_of_ble_eq_true rfl) hRl⟩ hKK hSS hS hA hP hD [16, 17, 18, 19, 20, 21, 22, 23, 1, 2, 3, 4, 5, 6, 7] (by decide) rfl rfl rfl 16 rfl rfl hl.1 rfl (Nat.le_of_ble_eq_true rfl) dX7_safe_28) hP hD hS hA [16, 17, 18, 19, 20, 21, 22, 23, 1, 2, 3, 4, 5, 6, 7] [0, 8, 9, 10, 11, 12, 13, 14, 15] [0, 17, 18, 19, 20, 21, 22, 23, 1, 2, 3, 4, 5, 6, 7, 8, 9, 10, 11, 12, 13, 14, 15, 16] rfl rfl (by decide) (by decide) (by decide) (fun _ => rfl) (fun r_34 u H locs hw hP hD hS => ?_)
        obtain ⟨ht2_35, wm2_36, cd2_37, sl2_38, od2_39, ow2_40, lo2_41, mi2_42⟩ := u
        have hP : va_P G.1 vwCl [(h0, .inr (7, [.ref e0, .ref t, .ref k, .ref n, .ref j, .ref i0, .int kp, .ref b0, .ref s0, .ref q, .ref g])), (t, .inr (6, [.int ns, .int np, .int fu, .int fd, .int fi, .ref t1, .ref t2, .ref t3, .ref t4, .ref t5, .ref t6])), aI G t1 9 sz_, aI G t2 9 pt, aI G t3 9 fh, aI G t4 8 kd, aI G t5 8 nd, aI G t6 8 fw, (n, .inr (1, [.ref n1, .ref n2, .ref n3, .ref n4, .ref n5, .ref n6, .ref n7, .int lo, .int mi, .int sd])), aI G n1 9 ht, aI G n2 8 wm, aI G n3 8 se, aI G n4 8 cd, aI G n5 8 sl, aI G n6 8 od, aI G n7 72 ow, (j, .inr (1, [.ref j1, .ref j2, .ref j3, .ref j4, .ref j5, .ref j6, .ref j7, .int lo2_41, .int mi2_42, .int sd2_14])), aI G j1 9 ht2_35, aI G j2 8 wm2_36, aI G j3 8 se2_7, aI G j4 8 cd2_37, aI G j5 8 sl2_38, aI G j6 8 od2_39, aI G j7 72 ow2_40] H := hP
        have hD : va_D A [(h0, .inr (7, [.ref e0, .ref t, .ref k, .ref n, .ref j, .ref i0, .int kp, .ref b0, .ref s0, .ref q, .ref g])), (t, .inr (6, [.int ns, .int np, .int fu, .int fd, .int fi, .ref t1, .ref t2, .ref t3, .ref t4, .ref t5, .ref t6])), aI G t1 9 sz_, aI G t2 9 pt, aI G t3 9 fh, aI G t4 8 kd, aI G t5 8 nd, aI G t6 8 fw, (n, .inr (1, [.ref n1, .ref n2, .ref n3, .ref n4, .ref n5, .ref n6, .ref n7, .int lo, .int mi, .int sd])), aI G n1 9 ht, aI G n2 8 wm, aI G n3 8 se, aI G n4 8 cd, aI G n5 8 sl, aI G n6 8 od, aI G n7 72 ow, (j, .inr (1, [.ref j1, .ref j2, .ref j3, .ref j4, .ref j5, .ref j6, .ref j7, .int lo2_41, .int mi2_42, .int sd2_14])), aI G j1 9 ht2_35, aI G j2 8 wm2_36, aI G j3 8 se2_7, aI G j4 8 cd2_37, aI G j5 8 sl2_38, aI G j6 8 od2_39, aI G j7 72 ow2_40] := hD
        have hv := hv r_34 ht2_35 wm2_36 cd2_37 sl2_38 od2_39 ow2_40 lo2_41 mi2_42 hw
        refine lv_if_eq (tgt := 36) hx hb dX7_safe_31 (by decide) (fun hc_43 => ?_) (fun hc_43 => ?_)
        · have hv := hv.1 hc_43
          refine lv_iinc (v := (x1_23 + 1)) (lv' := [(1, .int (x1_23 + 1)), (0, .ref h0)]) hx hb dX7_safe_36 hl (k := 0) rfl rfl (by decide) rfl (fun ls hl => ?_)
          refine lv_goto (tgt := 13) hx hb dX7_safe_39 (by decide) ?_
          exact ih_26 _ _ _ _ _ _ _ _ _ _ _ _ (Nat.lt_of_lt_of_le hv.2 (Nat.le_of_lt_succ hI_27)) hv.1 hP hD hS hl
        · have hv := hv.2 hc_43
          refine lv_iload_n hx hb dX7_safe_34 rfl (lv_at hl 0 rfl) ?_
          exact x_iret (v := x1_23) (ht2_35, wm2_36, se2_7, cd2_37, sl2_38, od2_39, ow2_40, lo2_41, mi2_42, sd2_14) hQ hx hb hr hlocks hS dX7_safe_35 hv hP hD
  exact Lm_46 _ _ _ _ _ _ _ _ _ _ _ _ _ (Nat.lt_succ_self _) hi0 hP hD hS hl
theorem v_X7_safe (l : Launch) (G : Gt) (h0 t t1 t2 t3 t4 t5 t6 n n1 n2 n3 n4 n5 n6 n7 j j1 j2 j3 j4 j5 j6 j7 : Nat) (sz : Nat) (e0 : Nat) (k : Nat) (i0 : Nat) (b0 : Nat) (s0 : Nat) (q : Nat) (g : Nat) (kp : Int32) (ns : Int32) (np : Int32) (fu : Int32) (fd : Int32) (fi : Int32) (sz_ : Nat → Int32) (pt : Nat → Int32) (fh : Nat → Int32) (kd : Nat → Int32) (nd : Nat → Int32) (fw : Nat → Int32) (ht : Nat → Int32) (wm : Nat → Int32) (se : Nat → Int32) (cd : Nat → Int32) (sl : Nat → Int32) (od : Nat → Int32) (ow : Nat → Int32) (lo : Int32) (mi : Int32) (sd : Int32) (htj : Nat → Int32) (wmj : Nat → Int32) (sej : Nat → Int32) (cdj : Nat → Int32) (slj : Nat → Int32) (odj : Nat → Int32) (owj : Nat → Int32) (loj : Int32) (mij : Int32) (sdj : Int32) (T : Nat → Nat → Int) (Ns : Nat) (Np : Nat) (v : Nat → Int) (M : Int) (hp : TOK T Ns Np ∧ CT T Ns Np ns np fu fd fi sz_ pt kd nd ∧ CN Ns Np v ht wm se cd sl od ow lo mi sd ∧ NOK T Ns Np (fun _ => 2 * M) M v ∧ M ≤ 900000) : ∃ (gNs_1 : Nat) (gNp_2 : Nat) (gv_3 : Nat → Int), ((CN gNs_1 gNp_2 gv_3 ht wm se cd sl od ow lo mi sd ∧ gNs_1 ≤ 9 ∧ gNp_2 ≤ 8) ∧ (∀ (ht2_5 : Nat → Int32) (wm2_6 : Nat → Int32) (se2_7 : Nat → Int32) (cd2_8 : Nat → Int32) (sl2_9 : Nat → Int32) (od2_10 : Nat → Int32) (ow2_11 : Nat → Int32) (lo2_12 : Int32) (mi2_13 : Int32) (sd2_14 : Int32), (CN gNs_1 gNp_2 gv_3 ht2_5 wm2_6 se2_7 cd2_8 sl2_9 od2_10 ow2_11 lo2_12 mi2_13 sd2_14) → (∃ (I13_24 : (Nat → Int32) → (Nat → Int32) → (Nat → Int32) → (Nat → Int32) → (Nat → Int32) → (Nat → Int32) → Int32 → Int32 → Int32 → Prop) (μ13_25 : (Nat → Int32) → (Nat → Int32) → (Nat → Int32) → (Nat → Int32) → (Nat → Int32) → (Nat → Int32) → Int32 → Int32 → Int32 → Nat), I13_24 ht2_5 wm2_6 cd2_8 sl2_9 od2_10 ow2_11 lo2_12 mi2_13 0 ∧ (∀ (fj1_15 : (Nat → Int32)) (fj2_16 : (Nat → Int32)) (fj4_17 : (Nat → Int32)) (fj5_18 : (Nat → Int32)) (fj6_19 : (Nat → Int32)) (fj7_20 : (Nat → Int32)) (gj7_21 : Int32) (gj8_22 : Int32) (x1_23 : Int32), I13_24 fj1_15 fj2_16 fj4_17 fj5_18 fj6_19 fj7_20 gj7_21 gj8_22 x1_23 → (999 ≤ x1_23 → (999 : Int32) = nI (zSafe T Ns Np v 999)) ∧ (¬ (999 ≤ x1_23) → ∃ (gT_29 : Nat → Nat → Int) (gNs_30 : Nat) (gNp_31 : Nat) (gv_32 : Nat → Int) (gM_33 : Int), ((TOK gT_29 gNs_30 gNp_31 ∧ CT gT_29 gNs_30 gNp_31 ns np fu fd fi sz_ pt kd nd ∧ CN gNs_30 gNp_31 gv_32 fj1_15 fj2_16 se2_7 fj4_17 fj5_18 fj6_19 fj7_20 gj7_21 gj8_22 sd2_14 ∧ NOK gT_29 gNs_30 gNp_31 (fun _ => 2 * gM_33) gM_33 gv_32 ∧ gM_33 ≤ 1000000) ∧ (∀ (r_34 : Int32) (ht2_35 : Nat → Int32) (wm2_36 : Nat → Int32) (cd2_37 : Nat → Int32) (sl2_38 : Nat → Int32) (od2_39 : Nat → Int32) (ow2_40 : Nat → Int32) (lo2_41 : Int32) (mi2_42 : Int32), (r_34 = nI (zCs gT_29 (zPass gT_29 gNs_30 gNp_31 gv_32) gNp_31) ∧ CN gNs_30 gNp_31 (zPass gT_29 gNs_30 gNp_31 gv_32) ht2_35 wm2_36 se2_7 cd2_37 sl2_38 od2_39 ow2_40 lo2_41 mi2_42 sd2_14) → ((r_34 = 0 → I13_24 ht2_35 wm2_36 cd2_37 sl2_38 od2_39 ow2_40 lo2_41 mi2_42 (x1_23 + 1) ∧ μ13_25 ht2_35 wm2_36 cd2_37 sl2_38 od2_39 ow2_40 lo2_41 mi2_42 (x1_23 + 1) < μ13_25 fj1_15 fj2_16 fj4_17 fj5_18 fj6_19 fj7_20 gj7_21 gj8_22 x1_23) ∧ (¬ (r_34 = 0) → x1_23 = nI (zSafe T Ns Np v 999)))))))))) := by
  obtain ⟨hT, hC, hN, hO, hM⟩ := hp
  have t1 := hT.1
  have t2 := hT.2.1
  have hns : ns = nI Ns := hC.1
  have hnp : np = nI Np := hC.2.1
  refine ⟨Ns, Np, v, ⟨hN, t1, t2⟩, fun b1 b2 b3 b4 b5 b6 b7 b8 b9 b10 hN0 => ?_⟩
  refine ⟨fun f1 f2 f4 f5 f6 f7 g7 g8 z => ∃ i, i ≤ 999 ∧ z = nI i ∧ zSafe T Ns Np v i = i ∧ CN Ns Np (zGo T Ns Np v i) f1 f2 b3 f4 f5 f6 f7 g7 g8 b10, fun _ _ _ _ _ _ _ _ z => 999 - z.toNatClampNeg, ⟨0, by omega, rfl, rfl, hN0⟩, ?_⟩
  rintro f1 f2 f4 f5 f6 f7 g7 g8 z ⟨i, hi, rfl, hs, hNi⟩
  have ei : (nI i).toNatClampNeg = i := nI_clamp (by omega)
  have ei1 : nI i + 1 = nI (i + 1) := nI_1 i
  have ej : (nI (i + 1)).toNatClampNeg = i + 1 := nI_clamp (by omega)
  simp only [ei, ei1, ej]
  have h9 : (999 : Int32) ≤ nI i ↔ 999 ≤ i := nI_leI (a := 999) (by omega) (by omega)
  rw [h9]
  refine ⟨fun h => ?_, fun h => ?_⟩
  · have e : i = 999 := by omega
    subst e
    rw [hs]; rfl
  · have hcl := zCs_lt T (zGo T Ns Np v (i + 1)) Np
    have hcl2 : zCs T (zGo T Ns Np v (i + 1)) Np < 2 ^ 31 := Nat.lt_trans hcl (Nat.pow_lt_pow_right (by omega) (by omega))
    refine ⟨T, Ns, Np, _, M + i, ⟨hT, hC, hNi, zGo_ok hT hO i, by omega⟩, fun r a1 a2 a3 a4 a5 a6 a7 a8 hw => ⟨fun q => ⟨⟨i + 1, by omega, rfl, ?_, hw.2⟩, by omega⟩, fun q => ?_⟩⟩
    · have z : nI (zCs T (zGo T Ns Np v (i + 1)) Np) = nI 0 := hw.1.symm.trans q
      rw [zSafe, if_pos ⟨hs, (nI_eq hcl2 (by omega)).mp z⟩]
    · rw [zSafe_stop hs (fun z => q (by rw [hw.1]; show nI (zCs T (zGo T Ns Np v (i + 1)) Np) = 0; rw [z]; rfl)) 999 (by omega)]
theorem k_X7_safe (l : Launch) (G : Gt) (h0 t t1 t2 t3 t4 t5 t6 n n1 n2 n3 n4 n5 n6 n7 j j1 j2 j3 j4 j5 j6 j7 : Nat) (sz : Nat) (e0 : Nat) (k : Nat) (i0 : Nat) (b0 : Nat) (s0 : Nat) (q : Nat) (g : Nat) (kp : Int32) (ns : Int32) (np : Int32) (fu : Int32) (fd : Int32) (fi : Int32) (sz_ : Nat → Int32) (pt : Nat → Int32) (fh : Nat → Int32) (kd : Nat → Int32) (nd : Nat → Int32) (fw : Nat → Int32) (ht : Nat → Int32) (wm : Nat → Int32) (se : Nat → Int32) (cd : Nat → Int32) (sl : Nat → Int32) (od : Nat → Int32) (ow : Nat → Int32) (lo : Int32) (mi : Int32) (sd : Int32) (htj : Nat → Int32) (wmj : Nat → Int32) (sej : Nat → Int32) (cdj : Nat → Int32) (slj : Nat → Int32) (odj : Nat → Int32) (owj : Nat → Int32) (loj : Int32) (mij : Int32) (sdj : Int32) (T : Nat → Nat → Int) (Ns : Nat) (Np : Nat) (v : Nat → Int) (M : Int) (hp : TOK T Ns Np ∧ CT T Ns Np ns np fu fd fi sz_ pt kd nd ∧ CN Ns Np v ht wm se cd sl od ow lo mi sd ∧ NOK T Ns Np (fun _ => 2 * M) M v ∧ M ≤ 900000) : MetI l yX7_safe wsX7_safe 4 95 G [.ref h0] [(h0, .inr (7, [.ref e0, .ref t, .ref k, .ref n, .ref j, .ref i0, .int kp, .ref b0, .ref s0, .ref q, .ref g])), (t, .inr (6, [.int ns, .int np, .int fu, .int fd, .int fi, .ref t1, .ref t2, .ref t3, .ref t4, .ref t5, .ref t6])), aI G t1 9 sz_, aI G t2 9 pt, aI G t3 9 fh, aI G t4 8 kd, aI G t5 8 nd, aI G t6 8 fw, (n, .inr (1, [.ref n1, .ref n2, .ref n3, .ref n4, .ref n5, .ref n6, .ref n7, .int lo, .int mi, .int sd])), aI G n1 9 ht, aI G n2 8 wm, aI G n3 8 se, aI G n4 8 cd, aI G n5 8 sl, aI G n6 8 od, aI G n7 72 ow, (j, .inr (1, [.ref j1, .ref j2, .ref j3, .ref j4, .ref j5, .ref j6, .ref j7, .int loj, .int mij, .int sdj])), aI G j1 9 htj, aI G j2 8 wmj, aI G j3 8 sej, aI G j4 8 cdj, aI G j5 8 slj, aI G j6 8 odj, aI G j7 72 owj] sz (fun (r : Int32) (u : (Nat → Int32) × (Nat → Int32) × (Nat → Int32) × (Nat → Int32) × (Nat → Int32) × (Nat → Int32) × (Nat → Int32) × (Int32) × (Int32) × (Int32)) => r = nI (zSafe T Ns Np v 999)) (fun (u : (Nat → Int32) × (Nat → Int32) × (Nat → Int32) × (Nat → Int32) × (Nat → Int32) × (Nat → Int32) × (Nat → Int32) × (Int32) × (Int32) × (Int32)) => [(h0, .inr (7, [.ref e0, .ref t, .ref k, .ref n, .ref j, .ref i0, .int kp, .ref b0, .ref s0, .ref q, .ref g])), (t, .inr (6, [.int ns, .int np, .int fu, .int fd, .int fi, .ref t1, .ref t2, .ref t3, .ref t4, .ref t5, .ref t6])), aI G t1 9 sz_, aI G t2 9 pt, aI G t3 9 fh, aI G t4 8 kd, aI G t5 8 nd, aI G t6 8 fw, (n, .inr (1, [.ref n1, .ref n2, .ref n3, .ref n4, .ref n5, .ref n6, .ref n7, .int lo, .int mi, .int sd])), aI G n1 9 ht, aI G n2 8 wm, aI G n3 8 se, aI G n4 8 cd, aI G n5 8 sl, aI G n6 8 od, aI G n7 72 ow, (j, .inr (1, [.ref j1, .ref j2, .ref j3, .ref j4, .ref j5, .ref j6, .ref j7, .int u.2.2.2.2.2.2.2.1, .int u.2.2.2.2.2.2.2.2.1, .int u.2.2.2.2.2.2.2.2.2])), aI G j1 9 u.1, aI G j2 8 u.2.1, aI G j3 8 u.2.2.1, aI G j4 8 u.2.2.2.1, aI G j5 8 u.2.2.2.2.1, aI G j6 8 u.2.2.2.2.2.1, aI G j7 72 u.2.2.2.2.2.2.1]) :=
  c_X7_safe l G h0 t t1 t2 t3 t4 t5 t6 n n1 n2 n3 n4 n5 n6 n7 j j1 j2 j3 j4 j5 j6 j7 sz e0 k i0 b0 s0 q g kp ns np fu fd fi sz_ pt fh kd nd fw ht wm se cd sl od ow lo mi sd htj wmj sej cdj slj odj owj loj mij sdj T Ns Np v M (v_X7_safe l G h0 t t1 t2 t3 t4 t5 t6 n n1 n2 n3 n4 n5 n6 n7 j j1 j2 j3 j4 j5 j6 j7 sz e0 k i0 b0 s0 q g kp ns np fu fd fi sz_ pt fh kd nd fw ht wm se cd sl od ow lo mi sd htj wmj sej cdj slj odj owj loj mij sdj T Ns Np v M hp)

set_option maxHeartbeats 4000000 in
set_option maxRecDepth 100000 in
theorem c_X7_write (l : Launch) (G : Gt) (h0 t t1 t2 t3 t4 t5 t6 b0 b01 b02 : Nat) (sz : Nat) (e0 : Nat) (k : Nat) (n : Nat) (j : Nat) (i0 : Nat) (s0 : Nat) (q : Nat) (g : Nat) (kp : Int32) (ns : Int32) (np : Int32) (fu : Int32) (fd : Int32) (fi : Int32) (sz_ : Nat → Int32) (pt : Nat → Int32) (fh : Nat → Int32) (kd : Nat → Int32) (nd : Nat → Int32) (fw : Nat → Int32) (en : Int32) (bs : Nat → Int32) (bh : Nat → Int32) (x : Int32) (y : Int32) (Ns : Nat) (ek : Nat) (hv : (¬ x < 0 ∧ ¬ ns ≤ x → (¬ y < 0 ∧ ¬ 9999 < y → (en < 30 → (vp_in en 30 ∧ en < 30) ∧ (((¬ (0 ≤ x.toInt ∧ x.toInt < Ns) ∧ (en + 1) = -1000000001 ∧ (upd bs en.toNatClampNeg x) = bs ∧ (upd bh en.toNatClampNeg y) = bh ∧ (en + 1) = en) ∨ ((0 ≤ x.toInt ∧ x.toInt < Ns) ∧ ¬ (0 ≤ y.toInt ∧ y.toInt ≤ 9999) ∧ (en + 1) = -1000000002 ∧ (upd bs en.toNatClampNeg x) = bs ∧ (upd bh en.toNatClampNeg y) = bh ∧ (en + 1) = en) ∨ ((0 ≤ x.toInt ∧ x.toInt < Ns) ∧ (0 ≤ y.toInt ∧ y.toInt ≤ 9999) ∧ ek = 30 ∧ (en + 1) = -1000000004 ∧ (upd bs en.toNatClampNeg x) = bs ∧ (upd bh en.toNatClampNeg y) = bh ∧ (en + 1) = en) ∨ ((0 ≤ x.toInt ∧ x.toInt < Ns) ∧ (0 ≤ y.toInt ∧ y.toInt ≤ 9999) ∧ ek < 30 ∧ (en + 1) = nI (ek + 1) ∧ (upd bs en.toNatClampNeg x) = upd bs ek x ∧ (upd bh en.toNatClampNeg y) = upd bh ek y ∧ (en + 1) = nI (ek + 1))))) ∧ (¬ (en < 30) → ((¬ (0 ≤ x.toInt ∧ x.toInt < Ns) ∧ ((-1000000004) : Int32) = -1000000001 ∧ bs = bs ∧ bh = bh ∧ en = en) ∨ ((0 ≤ x.toInt ∧ x.toInt < Ns) ∧ ¬ (0 ≤ y.toInt ∧ y.toInt ≤ 9999) ∧ ((-1000000004) : Int32) = -1000000002 ∧ bs = bs ∧ bh = bh ∧ en = en) ∨ ((0 ≤ x.toInt ∧ x.toInt < Ns) ∧ (0 ≤ y.toInt ∧ y.toInt ≤ 9999) ∧ ek = 30 ∧ ((-1000000004) : Int32) = -1000000004 ∧ bs = bs ∧ bh = bh ∧ en = en) ∨ ((0 ≤ x.toInt ∧ x.toInt < Ns) ∧ (0 ≤ y.toInt ∧ y.toInt ≤ 9999) ∧ ek < 30 ∧ ((-1000000004) : Int32) = nI (ek + 1) ∧ bs = upd bs ek x ∧ bh = upd bh ek y ∧ en = nI (ek + 1))))) ∧ (¬ (¬ y < 0 ∧ ¬ 9999 < y) → ((¬ (0 ≤ x.toInt ∧ x.toInt < Ns) ∧ ((-1000000002) : Int32) = -1000000001 ∧ bs = bs ∧ bh = bh ∧ en = en) ∨ ((0 ≤ x.toInt ∧ x.toInt < Ns) ∧ ¬ (0 ≤ y.toInt ∧ y.toInt ≤ 9999) ∧ ((-1000000002) : Int32) = -1000000002 ∧ bs = bs ∧ bh = bh ∧ en = en) ∨ ((0 ≤ x.toInt ∧ x.toInt < Ns) ∧ (0 ≤ y.toInt ∧ y.toInt ≤ 9999) ∧ ek = 30 ∧ ((-1000000002) : Int32) = -1000000004 ∧ bs = bs ∧ bh = bh ∧ en = en) ∨ ((0 ≤ x.toInt ∧ x.toInt < Ns) ∧ (0 ≤ y.toInt ∧ y.toInt ≤ 9999) ∧ ek < 30 ∧ ((-1000000002) : Int32) = nI (ek + 1) ∧ bs = upd bs ek x ∧ bh = upd bh ek y ∧ en = nI (ek + 1))))) ∧ (¬ (¬ x < 0 ∧ ¬ ns ≤ x) → ((¬ (0 ≤ x.toInt ∧ x.toInt < Ns) ∧ ((-1000000001) : Int32) = -1000000001 ∧ bs = bs ∧ bh = bh ∧ en = en) ∨ ((0 ≤ x.toInt ∧ x.toInt < Ns) ∧ ¬ (0 ≤ y.toInt ∧ y.toInt ≤ 9999) ∧ ((-1000000001) : Int32) = -1000000002 ∧ bs = bs ∧ bh = bh ∧ en = en) ∨ ((0 ≤ x.toInt ∧ x.toInt < Ns) ∧ (0 ≤ y.toInt ∧ y.toInt ≤ 9999) ∧ ek = 30 ∧ ((-1000000001) : Int32) = -1000000004 ∧ bs = bs ∧ bh = bh ∧ en = en) ∨ ((0 ≤ x.toInt ∧ x.toInt < Ns) ∧ (0 ≤ y.toInt ∧ y.toInt ≤ 9999) ∧ ek < 30 ∧ ((-1000000001) : Int32) = nI (ek + 1) ∧ bs = upd bs ek x ∧ bh = upd bh ek y ∧ en = nI (ek + 1))))) : MetI l yX7_write wsX7_write 1 22 G [.ref h0, .int x, .int y] [(h0, .inr (7, [.ref e0, .ref t, .ref k, .ref n, .ref j, .ref i0, .int kp, .ref b0, .ref s0, .ref q, .ref g])), (t, .inr (6, [.int ns, .int np, .int fu, .int fd, .int fi, .ref t1, .ref t2, .ref t3, .ref t4, .ref t5, .ref t6])), aI G t1 9 sz_, aI G t2 9 pt, aI G t3 9 fh, aI G t4 8 kd, aI G t5 8 nd, aI G t6 8 fw, (b0, .inr (0, [.ref b01, .ref b02, .int en])), aI G b01 30 bs, aI G b02 30 bh] sz (fun (r : Int32) (u : (Int32) × (Nat → Int32) × (Nat → Int32)) => ((¬ (0 ≤ x.toInt ∧ x.toInt < Ns) ∧ r = -1000000001 ∧ u.2.1 = bs ∧ u.2.2 = bh ∧ u.1 = en) ∨ ((0 ≤ x.toInt ∧ x.toInt < Ns) ∧ ¬ (0 ≤ y.toInt ∧ y.toInt ≤ 9999) ∧ r = -1000000002 ∧ u.2.1 = bs ∧ u.2.2 = bh ∧ u.1 = en) ∨ ((0 ≤ x.toInt ∧ x.toInt < Ns) ∧ (0 ≤ y.toInt ∧ y.toInt ≤ 9999) ∧ ek = 30 ∧ r = -1000000004 ∧ u.2.1 = bs ∧ u.2.2 = bh ∧ u.1 = en) ∨ ((0 ≤ x.toInt ∧ x.toInt < Ns) ∧ (0 ≤ y.toInt ∧ y.toInt ≤ 9999) ∧ ek < 30 ∧ r = nI (ek + 1) ∧ u.2.1 = upd bs ek x ∧ u.2.2 = upd bh ek y ∧ u.1 = nI (ek + 1)))) (fun (u : (Int32) × (Nat → Int32) × (Nat → Int32)) => [(h0, .inr (7, [.ref e0, .ref t, .ref k, .ref n, .ref j, .ref i0, .int kp, .ref b0, .ref s0, .ref q, .ref g])), (t, .inr (6, [.int ns, .int np, .int fu, .int fd, .int fi, .ref t1, .ref t2, .ref t3, .ref t4, .ref t5, .ref t6])), aI G t1 9 sz_, aI G t2 9 pt, aI G t3 9 fh, aI G t4 8 kd, aI G t5 8 nd, aI G t6 8 fw, (b0, .inr (0, [.ref b01, .ref b02, .int u.1])), aI G b01 30 u.2.1, aI G b02 30 u.2.2]) := by
  refine x_startI (cc := cX7_write) (maxL := 3) (ret := (some .int)) (by decide) rfl (Nat.le_of_ble_eq_true rfl) ?_
  intro p e s m args below meth c A R Q ls hRf hRl hQ C hP hD hS hA hSS hl
  obtain ⟨hx, hb, hr, hml, hown, hts, hlocks, hKK⟩ := C
  have hown : s.vm.findClass RX7 = some m.cls := hown
  have hl : lv_has ls 3 [(0, .ref h0), (1, .int x), (2, .int y)] := hl
  have hinX0 : ∀ w ∈ u_ws RX0 TX0 3, w ∈ wsX7_write := by decide +kernel
  have hinX7 : ∀ w ∈ u_ws RX7 TX7 11, w ∈ wsX7_write := by decide +kernel
  have kl143 := hts (.constant RX7 143 (-1000000001)) (by decide +kernel)
  have kl19 := hts (.fieldLink RX7 19 "WarmStones" "town" "LWarmStones$Town;") (by decide +kernel)
  have kl43 := hts (.fieldLink RX7 43 "WarmStones" "book" "LWarmStones$Book;") (by decide +kernel)
  have kl72 := hts (.constant RX7 72 (-1000000002)) (by decide +kernel)
  have kl77 := hts (.constant RX7 77 (-1000000004)) (by decide +kernel)
  have kl94 := hts (.fieldLink RX7 94 "WarmStones$Book" "entries" "I") (by decide +kernel)
  refine lv_aload_n hx hb dX7_write_0 rfl (lv_at hl 0 rfl) ?_
  refine va_get (D := G.1) (ci := 7) (v := .ref t) (C := RX7) (T := TX7) (N := 11) hx hb hts hinX7 hown hKK.1 hP 0 rfl rfl 1 (by decide) kl19 (fun _ h9 => h9) rfl dX7_write_1 ?_
  refine lv_iload_n hx hb dX7_write_4 rfl (lv_at hl 1 rfl) ?_
  refine x_calliR (x_runV (As := [.int x]) (rest := []) (n := 1) (C := RX6) (ci := 6) ⟨hx, hb, hml, hown, hts⟩ (k_X6_hasStone l G t t1 t2 t3 t4 t5 t6 _ ns np fu fd fi sz_ pt fh kd nd fw x) gX7_write_X6_hasStone rfl (by decide +kernel) ⟨Nat.le_trans (Nat.le_of_ble_eq_true rfl) hRf, Nat.le_trans (Nat.le_of_ble_eq_true rfl) hRl⟩ hKK hSS hS hA hP hD [1, 2, 3, 4, 5, 6, 7] (by decide) rfl rfl rfl 1 rfl rfl hl.1 rfl (Nat.le_of_ble_eq_true rfl) dX7_write_5) hP hD hS hA [1, 2, 3, 4, 5, 6, 7] rfl (fun r_1 _ H locs hw hP hS => ?_)
  replace hw := hw.symm; subst hw
  refine lv_if_ne (tgt := 14) hx hb dX7_write_8 (by decide) (fun hc_2 => ?_) (fun hc_2 => ?_)
  · have hv := hv.1 (tv_eqn.mp hc_2)
    refine lv_iload_n hx hb dX7_write_14 rfl (lv_at hl 2 rfl) ?_
    refine lv_iconst (v := 0) hx hb dX7_write_15 (by decide) ?_
    refine lv_sipush (v := 9999) hx hb dX7_write_16 (by decide) ?_
    refine x_calliR (x_runS (As := [.int y, .int 0, .int 9999]) (rest := []) (n := 3) ⟨hx, hb, hml, hown, hts⟩ (k_X7_within l G  _ y 0 9999) gX7_write_X7_within rfl (by decide +kernel) ⟨Nat.le_trans (Nat.le_of_ble_eq_true rfl) hRf, Nat.le_trans (Nat.le_of_ble_eq_true rfl) hRl⟩ hKK hSS hS hA hP hD [] (by decide) rfl rfl hl.1 rfl (Nat.le_of_ble_eq_true rfl) dX7_write_19) hP hD hS hA [] rfl (fun r_3 _ H locs hw hP hS => ?_)
    replace hw := hw.symm; subst hw
    refine lv_if_ne (tgt := 28) hx hb dX7_write_22 (by decide) (fun hc_4 => ?_) (fun hc_4 => ?_)
    · have hv := hv.1 (tv_eqn.mp hc_4)
      refine lv_aload_n hx hb dX7_write_28 rfl (lv_at hl 0 rfl) ?_
      refine va_get (D := G.1) (ci := 7) (v := .ref b0) (C := RX7) (T := TX7) (N := 11) hx hb hts hinX7 hown hKK.1 hP 0 rfl rfl 7 (by decide) kl43 (fun _ h9 => h9) rfl dX7_write_29 ?_
      refine va_get (D := G.1) (ci := 0) (v := .int en) (C := RX0) (T := TX0) (N := 3) hx hb hts hinX0 hown hKK.1 hP 8 rfl rfl 2 (by decide) kl94 (fun _ h9 => h9) rfl dX7_write_32 ?_
      refine lv_bipush (v := 30) hx hb dX7_write_35 (by decide) ?_
      refine lv_icmp_lt (tgt := 43) hx hb dX7_write_37 (by decide) (fun hc_5 => ?_) (fun hc_5 => ?_)
      · have hv := hv.1 hc_5
        refine lv_aload_n hx hb dX7_write_43 rfl (lv_at hl 0 rfl) ?_
        refine va_get (D := G.1) (ci := 7) (v := .ref b0) (C := RX7) (T := TX7) (N := 11) hx hb hts hinX7 hown hKK.1 hP 0 rfl rfl 7 (by decide) kl43 (fun _ h9 => h9) rfl dX7_write_44 ?_
        refine lv_iload_n hx hb dX7_write_47 rfl (lv_at hl 1 rfl) ?_
        refine lv_iload_n hx hb dX7_write_48 rfl (lv_at hl 2 rfl) ?_
        obtain ⟨hp, hv⟩ := hv
        refine x_callv (wr := [(h0, .inr (7, [.ref e0, .ref t, .ref k, .ref n, .ref j, .ref i0, .int kp, .ref b0, .ref s0, .ref q, .ref g])), (t, .inr (6, [.int ns, .int np, .int fu, .int fd, .int fi, .ref t1, .ref t2, .ref t3, .ref t4, .ref t5, .ref t6])), aI G t1 9 sz_, aI G t2 9 pt, aI G t3 9 fh, aI G t4 8 kd, aI G t5 8 nd, aI G t6 8 fw]) (w' := fun (u : (Int32) × (Nat → Int32) × (Nat → Int32)) => [(h0, .inr (7, [.ref e0, .ref t, .ref k, .ref n, .ref j, .ref i0, .int kp, .ref b0, .ref s0, .ref q, .ref g])), (t, .inr (6, [.int ns, .int np, .int fu, .int fd, .int fi, .ref t1, .ref t2, .ref t3, .ref t4, .ref t5, .ref t6])), aI G t1 9 sz_, aI G t2 9 pt, aI G t3 9 fh, aI G t4 8 kd, aI G t5 8 nd, aI G t6 8 fw, (b0, .inr (0, [.ref b01, .ref b02, .int u.1])), aI G b01 30 u.2.1, aI G b02 30 u.2.2]) (x_runV (As := [.int x, .int y]) (rest := []) (n := 2) (C := RX0) (ci := 0) ⟨hx, hb, hml, hown, hts⟩ (k_X0_append l G b0 b01 b02 _ en bs bh x y hp) gX7_write_X0_append rfl (by decide +kernel) ⟨Nat.le_trans (Nat.le_of_ble_eq_true rfl) hRf, Nat.le_trans (Nat.le_of_ble_eq_true rfl) hRl⟩ hKK hSS hS hA hP hD [8, 9, 10] (by decide) rfl rfl rfl 8 rfl rfl hl.1 rfl (Nat.le_of_ble_eq_true rfl) dX7_write_49) hP hD hS hA [8, 9, 10] [0, 1, 2, 3, 4, 5, 6, 7] [0, 1, 2, 3, 4, 5, 6, 7, 8, 9, 10] rfl rfl (by decide) (by decide) (by decide) (fun _ => rfl) (fun  u H locs hw hP hD hS => ?_)
        obtain ⟨en2_7, bs2_8, bh2_9⟩ := u
        obtain ⟨hw0, hw1, hw2⟩ := hw
        replace hw0 := hw0.symm; subst hw0
        replace hw1 := hw1.symm; subst hw1
        replace hw2 := hw2.symm; subst hw2
        have hP : va_P G.1 vwCl [(h0, .inr (7, [.ref e0, .ref t, .ref k, .ref n, .ref j, .ref i0, .int kp, .ref b0, .ref s0, .ref q, .ref g])), (t, .inr (6, [.int ns, .int np, .int fu, .int fd, .int fi, .ref t1, .ref t2, .ref t3, .ref t4, .ref t5, .ref t6])), aI G t1 9 sz_, aI G t2 9 pt, aI G t3 9 fh, aI G t4 8 kd, aI G t5 8 nd, aI G t6 8 fw, (b0, .inr (0, [.ref b01, .ref b02, .int (en + 1)])), aI G b01 30 (upd bs en.toNatClampNeg x), aI G b02 30 (upd bh en.toNatClampNeg y)] H := hP
        have hD : va_D A [(h0, .inr (7, [.ref e0, .ref t, .ref k, .ref n, .ref j, .ref i0, .int kp, .ref b0, .ref s0, .ref q, .ref g])), (t, .inr (6, [.int ns, .int np, .int fu, .int fd, .int fi, .ref t1, .ref t2, .ref t3, .ref t4, .ref t5, .ref t6])), aI G t1 9 sz_, aI G t2 9 pt, aI G t3 9 fh, aI G t4 8 kd, aI G t5 8 nd, aI G t6 8 fw, (b0, .inr (0, [.ref b01, .ref b02, .int (en + 1)])), aI G b01 30 (upd bs en.toNatClampNeg x), aI G b02 30 (upd bh en.toNatClampNeg y)] := hD
        refine lv_aload_n hx hb dX7_write_52 rfl (lv_at hl 0 rfl) ?_
        refine va_get (D := G.1) (ci := 7) (v := .ref b0) (C := RX7) (T := TX7) (N := 11) hx hb hts hinX7 hown hKK.1 hP 0 rfl rfl 7 (by decide) kl43 (fun _ h9 => h9) rfl dX7_write_53 ?_
        refine va_get (D := G.1) (ci := 0) (v := .int (en + 1)) (C := RX0) (T := TX0) (N := 3) hx hb hts hinX0 hown hKK.1 hP 8 rfl rfl 2 (by decide) kl94 (fun _ h9 => h9) rfl dX7_write_56 ?_
        exact x_iret (v := (en + 1)) ((en + 1), (upd bs en.toNatClampNeg x), (upd bh en.toNatClampNeg y)) hQ hx hb hr hlocks hS dX7_write_59 hv hP hD
      · have hv := hv.2 hc_5
        refine lv_ldc (v := (-1000000004)) hx hb hown kl77 dX7_write_40 ?_
        exact x_iret (v := (-1000000004)) (en, bs, bh) hQ hx hb hr hlocks hS dX7_write_42 hv hP hD
    · have hv := hv.2 (tv_eq.mp hc_4)
      refine lv_ldc (v := (-1000000002)) hx hb hown kl72 dX7_write_25 ?_
      exact x_iret (v := (-1000000002)) (en, bs, bh) hQ hx hb hr hlocks hS dX7_write_27 hv hP hD
  · have hv := hv.2 (tv_eq.mp hc_2)
    refine lv_ldc (v := (-1000000001)) hx hb hown kl143 dX7_write_11 ?_
    exact x_iret (v := (-1000000001)) (en, bs, bh) hQ hx hb hr hlocks hS dX7_write_13 hv hP hD
theorem v_X7_write (l : Launch) (G : Gt) (h0 t t1 t2 t3 t4 t5 t6 b0 b01 b02 : Nat) (sz : Nat) (e0 : Nat) (k : Nat) (n : Nat) (j : Nat) (i0 : Nat) (s0 : Nat) (q : Nat) (g : Nat) (kp : Int32) (ns : Int32) (np : Int32) (fu : Int32) (fd : Int32) (fi : Int32) (sz_ : Nat → Int32) (pt : Nat → Int32) (fh : Nat → Int32) (kd : Nat → Int32) (nd : Nat → Int32) (fw : Nat → Int32) (en : Int32) (bs : Nat → Int32) (bh : Nat → Int32) (x : Int32) (y : Int32) (Ns : Nat) (ek : Nat) (hp : Ns ≤ 9 ∧ ns = nI Ns ∧ en = nI ek ∧ ek ≤ 30) : (¬ x < 0 ∧ ¬ ns ≤ x → (¬ y < 0 ∧ ¬ 9999 < y → (en < 30 → (vp_in en 30 ∧ en < 30) ∧ (((¬ (0 ≤ x.toInt ∧ x.toInt < Ns) ∧ (en + 1) = -1000000001 ∧ (upd bs en.toNatClampNeg x) = bs ∧ (upd bh en.toNatClampNeg y) = bh ∧ (en + 1) = en) ∨ ((0 ≤ x.toInt ∧ x.toInt < Ns) ∧ ¬ (0 ≤ y.toInt ∧ y.toInt ≤ 9999) ∧ (en + 1) = -1000000002 ∧ (upd bs en.toNatClampNeg x) = bs ∧ (upd bh en.toNatClampNeg y) = bh ∧ (en + 1) = en) ∨ ((0 ≤ x.toInt ∧ x.toInt < Ns) ∧ (0 ≤ y.toInt ∧ y.toInt ≤ 9999) ∧ ek = 30 ∧ (en + 1) = -1000000004 ∧ (upd bs en.toNatClampNeg x) = bs ∧ (upd bh en.toNatClampNeg y) = bh ∧ (en + 1) = en) ∨ ((0 ≤ x.toInt ∧ x.toInt < Ns) ∧ (0 ≤ y.toInt ∧ y.toInt ≤ 9999) ∧ ek < 30 ∧ (en + 1) = nI (ek + 1) ∧ (upd bs en.toNatClampNeg x) = upd bs ek x ∧ (upd bh en.toNatClampNeg y) = upd bh ek y ∧ (en + 1) = nI (ek + 1))))) ∧ (¬ (en < 30) → ((¬ (0 ≤ x.toInt ∧ x.toInt < Ns) ∧ ((-1000000004) : Int32) = -1000000001 ∧ bs = bs ∧ bh = bh ∧ en = en) ∨ ((0 ≤ x.toInt ∧ x.toInt < Ns) ∧ ¬ (0 ≤ y.toInt ∧ y.toInt ≤ 9999) ∧ ((-1000000004) : Int32) = -1000000002 ∧ bs = bs ∧ bh = bh ∧ en = en) ∨ ((0 ≤ x.toInt ∧ x.toInt < Ns) ∧ (0 ≤ y.toInt ∧ y.toInt ≤ 9999) ∧ ek = 30 ∧ ((-1000000004) : Int32) = -1000000004 ∧ bs = bs ∧ bh = bh ∧ en = en) ∨ ((0 ≤ x.toInt ∧ x.toInt < Ns) ∧ (0 ≤ y.toInt ∧ y.toInt ≤ 9999) ∧ ek < 30 ∧ ((-1000000004) : Int32) = nI (ek + 1) ∧ bs = upd bs ek x ∧ bh = upd bh ek y ∧ en = nI (ek + 1))))) ∧ (¬ (¬ y < 0 ∧ ¬ 9999 < y) → ((¬ (0 ≤ x.toInt ∧ x.toInt < Ns) ∧ ((-1000000002) : Int32) = -1000000001 ∧ bs = bs ∧ bh = bh ∧ en = en) ∨ ((0 ≤ x.toInt ∧ x.toInt < Ns) ∧ ¬ (0 ≤ y.toInt ∧ y.toInt ≤ 9999) ∧ ((-1000000002) : Int32) = -1000000002 ∧ bs = bs ∧ bh = bh ∧ en = en) ∨ ((0 ≤ x.toInt ∧ x.toInt < Ns) ∧ (0 ≤ y.toInt ∧ y.toInt ≤ 9999) ∧ ek = 30 ∧ ((-1000000002) : Int32) = -1000000004 ∧ bs = bs ∧ bh = bh ∧ en = en) ∨ ((0 ≤ x.toInt ∧ x.toInt < Ns) ∧ (0 ≤ y.toInt ∧ y.toInt ≤ 9999) ∧ ek < 30 ∧ ((-1000000002) : Int32) = nI (ek + 1) ∧ bs = upd bs ek x ∧ bh = upd bh ek y ∧ en = nI (ek + 1))))) ∧ (¬ (¬ x < 0 ∧ ¬ ns ≤ x) → ((¬ (0 ≤ x.toInt ∧ x.toInt < Ns) ∧ ((-1000000001) : Int32) = -1000000001 ∧ bs = bs ∧ bh = bh ∧ en = en) ∨ ((0 ≤ x.toInt ∧ x.toInt < Ns) ∧ ¬ (0 ≤ y.toInt ∧ y.toInt ≤ 9999) ∧ ((-1000000001) : Int32) = -1000000002 ∧ bs = bs ∧ bh = bh ∧ en = en) ∨ ((0 ≤ x.toInt ∧ x.toInt < Ns) ∧ (0 ≤ y.toInt ∧ y.toInt ≤ 9999) ∧ ek = 30 ∧ ((-1000000001) : Int32) = -1000000004 ∧ bs = bs ∧ bh = bh ∧ en = en) ∨ ((0 ≤ x.toInt ∧ x.toInt < Ns) ∧ (0 ≤ y.toInt ∧ y.toInt ≤ 9999) ∧ ek < 30 ∧ ((-1000000001) : Int32) = nI (ek + 1) ∧ bs = upd bs ek x ∧ bh = upd bh ek y ∧ en = nI (ek + 1)))) := by
  obtain ⟨t1, rfl, rfl, hen⟩ := hp
  have hs_ := hs_iff (x := x) (m := nI Ns) rfl (by omega)
  have hy_ : (¬ y < 0 ∧ ¬ 9999 < y) ↔ (0 ≤ y.toInt ∧ y.toInt ≤ 9999) := wi_iff rfl rfl
  have ce : (nI ek).toNatClampNeg = ek := nI_clamp (by omega)
  have h30 : nI ek < 30 ↔ ek < 30 := by
    rw [i_lt (nI_toInt (by omega)) (show (30 : Int32).toInt = 30 from rfl)]
    omega
  refine ⟨fun h1 => ⟨fun h2 => ⟨fun h3 => ⟨⟨vp_in_nI (by have := h30.mp h3; omega) (by omega), h3⟩, Or.inr (Or.inr (Or.inr ⟨hs_.mp h1, hy_.mp h2, h30.mp h3, nI_1 ek, by rw [ce], by rw [ce], nI_1 ek⟩))⟩, fun h3 => ?_⟩, fun h2 => ?_⟩, fun h1 => ?_⟩
  · exact Or.inr (Or.inr (Or.inl ⟨hs_.mp h1, hy_.mp h2, by have := mt h30.mpr h3; omega, rfl, rfl, rfl, rfl⟩))
  · exact Or.inr (Or.inl ⟨hs_.mp h1, fun z => h2 (hy_.mpr z), rfl, rfl, rfl, rfl⟩)
  · exact Or.inl ⟨fun z => h1 (hs_.mpr z), rfl, rfl, rfl, rfl⟩
theorem k_X7_write (l : Launch) (G : Gt) (h0 t t1 t2 t3 t4 t5 t6 b0 b01 b02 : Nat) (sz : Nat) (e0 : Nat) (k : Nat) (n : Nat) (j : Nat) (i0 : Nat) (s0 : Nat) (q : Nat) (g : Nat) (kp : Int32) (ns : Int32) (np : Int32) (fu : Int32) (fd : Int32) (fi : Int32) (sz_ : Nat → Int32) (pt : Nat → Int32) (fh : Nat → Int32) (kd : Nat → Int32) (nd : Nat → Int32) (fw : Nat → Int32) (en : Int32) (bs : Nat → Int32) (bh : Nat → Int32) (x : Int32) (y : Int32) (Ns : Nat) (ek : Nat) (hp : Ns ≤ 9 ∧ ns = nI Ns ∧ en = nI ek ∧ ek ≤ 30) : MetI l yX7_write wsX7_write 1 22 G [.ref h0, .int x, .int y] [(h0, .inr (7, [.ref e0, .ref t, .ref k, .ref n, .ref j, .ref i0, .int kp, .ref b0, .ref s0, .ref q, .ref g])), (t, .inr (6, [.int ns, .int np, .int fu, .int fd, .int fi, .ref t1, .ref t2, .ref t3, .ref t4, .ref t5, .ref t6])), aI G t1 9 sz_, aI G t2 9 pt, aI G t3 9 fh, aI G t4 8 kd, aI G t5 8 nd, aI G t6 8 fw, (b0, .inr (0, [.ref b01, .ref b02, .int en])), aI G b01 30 bs, aI G b02 30 bh] sz (fun (r : Int32) (u : (Int32) × (Nat → Int32) × (Nat → Int32)) => ((¬ (0 ≤ x.toInt ∧ x.toInt < Ns) ∧ r = -1000000001 ∧ u.2.1 = bs ∧ u.2.2 = bh ∧ u.1 = en) ∨ ((0 ≤ x.toInt ∧ x.toInt < Ns) ∧ ¬ (0 ≤ y.toInt ∧ y.toInt ≤ 9999) ∧ r = -1000000002 ∧ u.2.1 = bs ∧ u.2.2 = bh ∧ u.1 = en) ∨ ((0 ≤ x.toInt ∧ x.toInt < Ns) ∧ (0 ≤ y.toInt ∧ y.toInt ≤ 9999) ∧ ek = 30 ∧ r = -1000000004 ∧ u.2.1 = bs ∧ u.2.2 = bh ∧ u.1 = en) ∨ ((0 ≤ x.toInt ∧ x.toInt < Ns) ∧ (0 ≤ y.toInt ∧ y.toInt ≤ 9999) ∧ ek < 30 ∧ r = nI (ek + 1) ∧ u.2.1 = upd bs ek x ∧ u.2.2 = upd bh ek y ∧ u.1 = nI (ek + 1)))) (fun (u : (Int32) × (Nat → Int32) × (Nat → Int32)) => [(h0, .inr (7, [.ref e0, .ref t, .ref k, .ref n, .ref j, .ref i0, .int kp, .ref b0, .ref s0, .ref q, .ref g])), (t, .inr (6, [.int ns, .int np, .int fu, .int fd, .int fi, .ref t1, .ref t2, .ref t3, .ref t4, .ref t5, .ref t6])), aI G t1 9 sz_, aI G t2 9 pt, aI G t3 9 fh, aI G t4 8 kd, aI G t5 8 nd, aI G t6 8 fw, (b0, .inr (0, [.ref b01, .ref b02, .int u.1])), aI G b01 30 u.2.1, aI G b02 30 u.2.2]) :=
  c_X7_write l G h0 t t1 t2 t3 t4 t5 t6 b0 b01 b02 sz e0 k n j i0 s0 q g kp ns np fu fd fi sz_ pt fh kd nd fw en bs bh x y Ns ek (v_X7_write l G h0 t t1 t2 t3 t4 t5 t6 b0 b01 b02 sz e0 k n j i0 s0 q g kp ns np fu fd fi sz_ pt fh kd nd fw en bs bh x y Ns ek hp)

set_option maxHeartbeats 4000000 in
set_option maxRecDepth 100000 in
theorem c_X7_tear (l : Launch) (G : Gt) (h0 b0 b01 b02 : Nat) (sz : Nat) (e0 : Nat) (t : Nat) (k : Nat) (n : Nat) (j : Nat) (i0 : Nat) (s0 : Nat) (q : Nat) (g : Nat) (kp : Int32) (en : Int32) (bs : Nat → Int32) (bh : Nat → Int32) (hv : (en : Int32) = en ∧ (0 : Int32) = 0) : MetI l yX7_tear wsX7_tear 0 0 G [.ref h0] [(h0, .inr (7, [.ref e0, .ref t, .ref k, .ref n, .ref j, .ref i0, .int kp, .ref b0, .ref s0, .ref q, .ref g])), (b0, .inr (0, [.ref b01, .ref b02, .int en])), aI G b01 30 bs, aI G b02 30 bh] sz (fun (r : Int32) (u : (Int32)) => (r : Int32) = en ∧ (u : Int32) = 0) (fun (u : (Int32)) => [(h0, .inr (7, [.ref e0, .ref t, .ref k, .ref n, .ref j, .ref i0, .int kp, .ref b0, .ref s0, .ref q, .ref g])), (b0, .inr (0, [.ref b01, .ref b02, .int u])), aI G b01 30 bs, aI G b02 30 bh]) := by
  refine x_startI (cc := cX7_tear) (maxL := 2) (ret := (some .int)) (by decide) rfl (Nat.le_of_ble_eq_true rfl) ?_
  intro p e s m args below meth c A R Q ls hRf hRl hQ C hP hD hS hA hSS hl
  obtain ⟨hx, hb, hr, hml, hown, hts, hlocks, hKK⟩ := C
  have hown : s.vm.findClass RX7 = some m.cls := hown
  have hl : lv_has ls 2 [(0, .ref h0)] := hl
  have hinX0 : ∀ w ∈ u_ws RX0 TX0 3, w ∈ wsX7_tear := by decide +kernel
  have hinX7 : ∀ w ∈ u_ws RX7 TX7 11, w ∈ wsX7_tear := by decide +kernel
  have kl43 := hts (.fieldLink RX7 43 "WarmStones" "book" "LWarmStones$Book;") (by decide +kernel)
  have kl94 := hts (.fieldLink RX7 94 "WarmStones$Book" "entries" "I") (by decide +kernel)
  refine lv_aload_n hx hb dX7_tear_0 rfl (lv_at hl 0 rfl) ?_
  refine va_get (D := G.1) (ci := 7) (v := .ref b0) (C := RX7) (T := TX7) (N := 11) hx hb hts hinX7 hown hKK.1 hP 0 rfl rfl 7 (by decide) kl43 (fun _ h9 => h9) rfl dX7_tear_1 ?_
  refine va_get (D := G.1) (ci := 0) (v := .int en) (C := RX0) (T := TX0) (N := 3) hx hb hts hinX0 hown hKK.1 hP 1 rfl rfl 2 (by decide) kl94 (fun _ h9 => h9) rfl dX7_tear_4 ?_
  refine lv_istore_n (lv' := [(1, .int en), (0, .ref h0)]) hx hb dX7_tear_7 rfl hl (by decide) rfl (fun ls hl => ?_)
  refine lv_aload_n hx hb dX7_tear_8 rfl (lv_at hl 1 rfl) ?_
  refine va_get (D := G.1) (ci := 7) (v := .ref b0) (C := RX7) (T := TX7) (N := 11) hx hb hts hinX7 hown hKK.1 hP 0 rfl rfl 7 (by decide) kl43 (fun _ h9 => h9) rfl dX7_tear_9 ?_
  refine lv_iconst (v := 0) hx hb dX7_tear_12 (by decide) ?_
  refine va_put (D := G.1) (ci := 0) (v := .int 0) (ty := .int) (C := RX0) (T := TX0) (N := 3) hx hb hts hinX0 tyX0 tyX0_ok nmX0 hown hKK.1 hP hD hS 1 rfl rfl 2 (by decide) kl94 (fun _ h9 => h9) rfl (by decide +kernel) rfl rfl (Nat.le_of_ble_eq_true rfl) dX7_tear_13 (fun H locs hP hD hS => ?_)
  have hP : va_P G.1 vwCl [(h0, .inr (7, [.ref e0, .ref t, .ref k, .ref n, .ref j, .ref i0, .int kp, .ref b0, .ref s0, .ref q, .ref g])), (b0, .inr (0, [.ref b01, .ref b02, .int 0])), aI G b01 30 bs, aI G b02 30 bh] H := hP
  have hD : va_D A [(h0, .inr (7, [.ref e0, .ref t, .ref k, .ref n, .ref j, .ref i0, .int kp, .ref b0, .ref s0, .ref q, .ref g])), (b0, .inr (0, [.ref b01, .ref b02, .int 0])), aI G b01 30 bs, aI G b02 30 bh] := hD
  refine lv_iload_n hx hb dX7_tear_16 rfl (lv_at hl 0 rfl) ?_
  exact x_iret (v := en) 0 hQ hx hb hr hlocks hS dX7_tear_17 hv hP hD
theorem v_X7_tear (l : Launch) (G : Gt) (h0 b0 b01 b02 : Nat) (sz : Nat) (e0 : Nat) (t : Nat) (k : Nat) (n : Nat) (j : Nat) (i0 : Nat) (s0 : Nat) (q : Nat) (g : Nat) (kp : Int32) (en : Int32) (bs : Nat → Int32) (bh : Nat → Int32) : (en : Int32) = en ∧ (0 : Int32) = 0 := by
  exact ⟨rfl, rfl⟩
theorem k_X7_tear (l : Launch) (G : Gt) (h0 b0 b01 b02 : Nat) (sz : Nat) (e0 : Nat) (t : Nat) (k : Nat) (n : Nat) (j : Nat) (i0 : Nat) (s0 : Nat) (q : Nat) (g : Nat) (kp : Int32) (en : Int32) (bs : Nat → Int32) (bh : Nat → Int32) : MetI l yX7_tear wsX7_tear 0 0 G [.ref h0] [(h0, .inr (7, [.ref e0, .ref t, .ref k, .ref n, .ref j, .ref i0, .int kp, .ref b0, .ref s0, .ref q, .ref g])), (b0, .inr (0, [.ref b01, .ref b02, .int en])), aI G b01 30 bs, aI G b02 30 bh] sz (fun (r : Int32) (u : (Int32)) => (r : Int32) = en ∧ (u : Int32) = 0) (fun (u : (Int32)) => [(h0, .inr (7, [.ref e0, .ref t, .ref k, .ref n, .ref j, .ref i0, .int kp, .ref b0, .ref s0, .ref q, .ref g])), (b0, .inr (0, [.ref b01, .ref b02, .int u])), aI G b01 30 bs, aI G b02 30 bh]) :=
  c_X7_tear l G h0 b0 b01 b02 sz e0 t k n j i0 s0 q g kp en bs bh (v_X7_tear l G h0 b0 b01 b02 sz e0 t k n j i0 s0 q g kp en bs bh)

set_option maxHeartbeats 4000000 in
set_option maxRecDepth 100000 in
theorem c_X7_judge (l : Launch) (G : Gt) (h0 t t1 t2 t3 t4 t5 t6 n n1 n2 n3 n4 n5 n6 n7 j j1 j2 j3 j4 j5 j6 j7 b0 b01 b02 : Nat) (sz : Nat) (e0 : Nat) (k : Nat) (i0 : Nat) (s0 : Nat) (q : Nat) (g : Nat) (kp : Int32) (ns : Int32) (np : Int32) (fu : Int32) (fd : Int32) (fi : Int32) (sz_ : Nat → Int32) (pt : Nat → Int32) (fh : Nat → Int32) (kd : Nat → Int32) (nd : Nat → Int32) (fw : Nat → Int32) (ht : Nat → Int32) (wm : Nat → Int32) (se : Nat → Int32) (cd : Nat → Int32) (sl : Nat → Int32) (od : Nat → Int32) (ow : Nat → Int32) (lo : Int32) (mi : Int32) (sd : Int32) (htj : Nat → Int32) (wmj : Nat → Int32) (sej : Nat → Int32) (cdj : Nat → Int32) (slj : Nat → Int32) (odj : Nat → Int32) (owj : Nat → Int32) (loj : Int32) (mij : Int32) (sdj : Int32) (en : Int32) (bs : Nat → Int32) (bh : Nat → Int32) (T : Nat → Nat → Int) (Ns : Nat) (Np : Nat) (v : Nat → Int) (M : Int) (ek : Nat) (hv : ∃ (gNs_1 : Nat) (gNp_2 : Nat) (gv_3 : Nat → Int), ((CN gNs_1 gNp_2 gv_3 ht wm se cd sl od ow lo mi sd ∧ gNs_1 ≤ 9 ∧ gNp_2 ≤ 8) ∧ (∀ (ht2_5 : Nat → Int32) (wm2_6 : Nat → Int32) (se2_7 : Nat → Int32) (cd2_8 : Nat → Int32) (sl2_9 : Nat → Int32) (od2_10 : Nat → Int32) (ow2_11 : Nat → Int32) (lo2_12 : Int32) (mi2_13 : Int32) (sd2_14 : Int32), (CN gNs_1 gNp_2 gv_3 ht2_5 wm2_6 se2_7 cd2_8 sl2_9 od2_10 ow2_11 lo2_12 mi2_13 sd2_14) → (∃ (gT_15 : Nat → Nat → Int) (gNs_16 : Nat) (gNp_17 : Nat) (gv_18 : Nat → Int) (gM_19 : Int) (gek_20 : Nat), ((TOK gT_15 gNs_16 gNp_17 ∧ CT gT_15 gNs_16 gNp_17 ns np fu fd fi sz_ pt kd nd ∧ CN gNs_16 gNp_17 gv_18 ht2_5 wm2_6 se2_7 cd2_8 sl2_9 od2_10 ow2_11 lo2_12 mi2_13 sd2_14 ∧ NOK gT_15 gNs_16 gNp_17 (fun _ => 2 * gM_19) gM_19 gv_18 ∧ gM_19 ≤ 900000 ∧ en = nI gek_20 ∧ gek_20 ≤ 30 ∧ (∀ j, j < gek_20 → 0 ≤ (bs j).toInt ∧ (bs j).toInt < gNs_16)) ∧ (∀ (r_21 : Int32) (ht2_22 : Nat → Int32) (wm2_23 : Nat → Int32) (cd2_24 : Nat → Int32) (sl2_25 : Nat → Int32) (od2_26 : Nat → Int32) (ow2_27 : Nat → Int32) (lo2_28 : Int32) (mi2_29 : Int32), (r_21.toInt = aJudge gT_15 gNs_16 gNp_17 gv_18 bs bh gek_20) → (r_21.toInt = aJudge T Ns Np v bs bh ek))))))) : MetI l yX7_judge wsX7_judge 5 118 G [.ref h0] [(h0, .inr (7, [.ref e0, .ref t, .ref k, .ref n, .ref j, .ref i0, .int kp, .ref b0, .ref s0, .ref q, .ref g])), (t, .inr (6, [.int ns, .int np, .int fu, .int fd, .int fi, .ref t1, .ref t2, .ref t3, .ref t4, .ref t5, .ref t6])), aI G t1 9 sz_, aI G t2 9 pt, aI G t3 9 fh, aI G t4 8 kd, aI G t5 8 nd, aI G t6 8 fw, (n, .inr (1, [.ref n1, .ref n2, .ref n3, .ref n4, .ref n5, .ref n6, .ref n7, .int lo, .int mi, .int sd])), aI G n1 9 ht, aI G n2 8 wm, aI G n3 8 se, aI G n4 8 cd, aI G n5 8 sl, aI G n6 8 od, aI G n7 72 ow, (j, .inr (1, [.ref j1, .ref j2, .ref j3, .ref j4, .ref j5, .ref j6, .ref j7, .int loj, .int mij, .int sdj])), aI G j1 9 htj, aI G j2 8 wmj, aI G j3 8 sej, aI G j4 8 cdj, aI G j5 8 slj, aI G j6 8 odj, aI G j7 72 owj, (b0, .inr (0, [.ref b01, .ref b02, .int en])), aI G b01 30 bs, aI G b02 30 bh] sz (fun (r : Int32) (u : (Nat → Int32) × (Nat → Int32) × (Nat → Int32) × (Nat → Int32) × (Nat → Int32) × (Nat → Int32) × (Nat → Int32) × (Int32) × (Int32) × (Int32)) => r.toInt = aJudge T Ns Np v bs bh ek) (fun (u : (Nat → Int32) × (Nat → Int32) × (Nat → Int32) × (Nat → Int32) × (Nat → Int32) × (Nat → Int32) × (Nat → Int32) × (Int32) × (Int32) × (Int32)) => [(h0, .inr (7, [.ref e0, .ref t, .ref k, .ref n, .ref j, .ref i0, .int kp, .ref b0, .ref s0, .ref q, .ref g])), (t, .inr (6, [.int ns, .int np, .int fu, .int fd, .int fi, .ref t1, .ref t2, .ref t3, .ref t4, .ref t5, .ref t6])), aI G t1 9 sz_, aI G t2 9 pt, aI G t3 9 fh, aI G t4 8 kd, aI G t5 8 nd, aI G t6 8 fw, (n, .inr (1, [.ref n1, .ref n2, .ref n3, .ref n4, .ref n5, .ref n6, .ref n7, .int lo, .int mi, .int sd])), aI G n1 9 ht, aI G n2 8 wm, aI G n3 8 se, aI G n4 8 cd, aI G n5 8 sl, aI G n6 8 od, aI G n7 72 ow, (j, .inr (1, [.ref j1, .ref j2, .ref j3, .ref j4, .ref j5, .ref j6, .ref j7, .int u.2.2.2.2.2.2.2.1, .int u.2.2.2.2.2.2.2.2.1, .int u.2.2.2.2.2.2.2.2.2])), aI G j1 9 u.1, aI G j2 8 u.2.1, aI G j3 8 u.2.2.1, aI G j4 8 u.2.2.2.1, aI G j5 8 u.2.2.2.2.1, aI G j6 8 u.2.2.2.2.2.1, aI G j7 72 u.2.2.2.2.2.2.1, (b0, .inr (0, [.ref b01, .ref b02, .int en])), aI G b01 30 bs, aI G b02 30 bh]) := by
  refine x_startI (cc := cX7_judge) (maxL := 1) (ret := (some .int)) (by decide) rfl (Nat.le_of_ble_eq_true rfl) ?_
  intro p e s m args below meth c A R Q ls hRf hRl hQ C hP hD hS hA hSS hl
  obtain ⟨hx, hb, hr, hml, hown, hts, hlocks, hKK⟩ := C
  have hown : s.vm.findClass RX7 = some m.cls := hown
  have hl : lv_has ls 1 [(0, .ref h0)] := hl
  have hinX7 : ∀ w ∈ u_ws RX7 TX7 11, w ∈ wsX7_judge := by decide +kernel
  have kl19 := hts (.fieldLink RX7 19 "WarmStones" "town" "LWarmStones$Town;") (by decide +kernel)
  have kl29 := hts (.fieldLink RX7 29 "WarmStones" "night" "LWarmStones$Night;") (by decide +kernel)
  have kl33 := hts (.fieldLink RX7 33 "WarmStones" "trial" "LWarmStones$Night;") (by decide +kernel)
  have kl43 := hts (.fieldLink RX7 43 "WarmStones" "book" "LWarmStones$Book;") (by decide +kernel)
  refine lv_aload_n hx hb dX7_judge_0 rfl (lv_at hl 0 rfl) ?_
  refine va_get (D := G.1) (ci := 7) (v := .ref j) (C := RX7) (T := TX7) (N := 11) hx hb hts hinX7 hown hKK.1 hP 0 rfl rfl 4 (by decide) kl33 (fun _ h9 => h9) rfl dX7_judge_1 ?_
  refine lv_aload_n hx hb dX7_judge_4 rfl (lv_at hl 0 rfl) ?_
  refine va_get (D := G.1) (ci := 7) (v := .ref n) (C := RX7) (T := TX7) (N := 11) hx hb hts hinX7 hown hKK.1 hP 0 rfl rfl 3 (by decide) kl29 (fun _ h9 => h9) rfl dX7_judge_5 ?_
  obtain ⟨gNs_1, gNp_2, gv_3, hv⟩ := hv
  obtain ⟨hp, hv⟩ := hv
  refine x_callv (wr := [(h0, .inr (7, [.ref e0, .ref t, .ref k, .ref n, .ref j, .ref i0, .int kp, .ref b0, .ref s0, .ref q, .ref g])), (t, .inr (6, [.int ns, .int np, .int fu, .int fd, .int fi, .ref t1, .ref t2, .ref t3, .ref t4, .ref t5, .ref t6])), aI G t1 9 sz_, aI G t2 9 pt, aI G t3 9 fh, aI G t4 8 kd, aI G t5 8 nd, aI G t6 8 fw, (b0, .inr (0, [.ref b01, .ref b02, .int en])), aI G b01 30 bs, aI G b02 30 bh]) (w' := fun (u : (Nat → Int32) × (Nat → Int32) × (Nat → Int32) × (Nat → Int32) × (Nat → Int32) × (Nat → Int32) × (Nat → Int32) × (Int32) × (Int32) × (Int32)) => [(h0, .inr (7, [.ref e0, .ref t, .ref k, .ref n, .ref j, .ref i0, .int kp, .ref b0, .ref s0, .ref q, .ref g])), (t, .inr (6, [.int ns, .int np, .int fu, .int fd, .int fi, .ref t1, .ref t2, .ref t3, .ref t4, .ref t5, .ref t6])), aI G t1 9 sz_, aI G t2 9 pt, aI G t3 9 fh, aI G t4 8 kd, aI G t5 8 nd, aI G t6 8 fw, (n, .inr (1, [.ref n1, .ref n2, .ref n3, .ref n4, .ref n5, .ref n6, .ref n7, .int lo, .int mi, .int sd])), aI G n1 9 ht, aI G n2 8 wm, aI G n3 8 se, aI G n4 8 cd, aI G n5 8 sl, aI G n6 8 od, aI G n7 72 ow, (j, .inr (1, [.ref j1, .ref j2, .ref j3, .ref j4, .ref j5, .ref j6, .ref j7, .int u.2.2.2.2.2.2.2.1, .int u.2.2.2.2.2.2.2.2.1, .int u.2.2.2.2.2.2.2.2.2])), aI G j1 9 u.1, aI G j2 8 u.2.1, aI G j3 8 u.2.2.1, aI G j4 8 u.2.2.2.1, aI G j5 8 u.2.2.2.2.1, aI G j6 8 u.2.2.2.2.2.1, aI G j7 72 u.2.2.2.2.2.2.1, (b0, .inr (0, [.ref b01, .ref b02, .int en])), aI G b01 30 bs, aI G b02 30 bh]) (x_runV (As := [.ref n]) (rest := []) (n := 1) (C := RX1) (ci := 1) ⟨hx, hb, hml, hown, hts⟩ (k_X1_copyFrom l G j j1 j2 j3 j4 j5 j6 j7 n n1 n2 n3 n4 n5 n6 n7 _ htj wmj sej cdj slj odj owj loj mij sdj ht wm se cd sl od ow lo mi sd gNs_1 gNp_2 gv_3 hp) gX7_judge_X1_copyFrom rfl (by decide +kernel) ⟨Nat.le_trans (Nat.le_of_ble_eq_true rfl) hRf, Nat.le_trans (Nat.le_of_ble_eq_true rfl) hRl⟩ hKK hSS hS hA hP hD [16, 17, 18, 19, 20, 21, 22, 23, 8, 9, 10, 11, 12, 13, 14, 15] (by decide) rfl rfl rfl 16 rfl rfl hl.1 rfl (Nat.le_of_ble_eq_true rfl) dX7_judge_8) hP hD hS hA [16, 17, 18, 19, 20, 21, 22, 23, 8, 9, 10, 11, 12, 13, 14, 15] [0, 1, 2, 3, 4, 5, 6, 7, 24, 25, 26] [0, 1, 2, 3, 4, 5, 6, 7, 19, 20, 21, 22, 23, 24, 25, 26, 11, 12, 13, 14, 15, 16, 17, 18, 8, 9, 10] rfl rfl (by decide) (by decide) (by decide) (fun _ => rfl) (fun  u H locs hw hP hD hS => ?_)
  obtain ⟨ht2_5, wm2_6, se2_7, cd2_8, sl2_9, od2_10, ow2_11, lo2_12, mi2_13, sd2_14⟩ := u
  have hP : va_P G.1 vwCl [(h0, .inr (7, [.ref e0, .ref t, .ref k, .ref n, .ref j, .ref i0, .int kp, .ref b0, .ref s0, .ref q, .ref g])), (t, .inr (6, [.int ns, .int np, .int fu, .int fd, .int fi, .ref t1, .ref t2, .ref t3, .ref t4, .ref t5, .ref t6])), aI G t1 9 sz_, aI G t2 9 pt, aI G t3 9 fh, aI G t4 8 kd, aI G t5 8 nd, aI G t6 8 fw, (n, .inr (1, [.ref n1, .ref n2, .ref n3, .ref n4, .ref n5, .ref n6, .ref n7, .int lo, .int mi, .int sd])), aI G n1 9 ht, aI G n2 8 wm, aI G n3 8 se, aI G n4 8 cd, aI G n5 8 sl, aI G n6 8 od, aI G n7 72 ow, (j, .inr (1, [.ref j1, .ref j2, .ref j3, .ref j4, .ref j5, .ref j6, .ref j7, .int lo2_12, .int mi2_13, .int sd2_14])), aI G j1 9 ht2_5, aI G j2 8 wm2_6, aI G j3 8 se2_7, aI G j4 8 cd2_8, aI G j5 8 sl2_9, aI G j6 8 od2_10, aI G j7 72 ow2_11, (b0, .inr (0, [.ref b01, .ref b02, .int en])), aI G b01 30 bs, aI G b02 30 bh] H := hP
  have hD : va_D A [(h0, .inr (7, [.ref e0, .ref t, .ref k, .ref n, .ref j, .ref i0, .int kp, .ref b0, .ref s0, .ref q, .ref g])), (t, .inr (6, [.int ns, .int np, .int fu, .int fd, .int fi, .ref t1, .ref t2, .ref t3, .ref t4, .ref t5, .ref t6])), aI G t1 9 sz_, aI G t2 9 pt, aI G t3 9 fh, aI G t4 8 kd, aI G t5 8 nd, aI G t6 8 fw, (n, .inr (1, [.ref n1, .ref n2, .ref n3, .ref n4, .ref n5, .ref n6, .ref n7, .int lo, .int mi, .int sd])), aI G n1 9 ht, aI G n2 8 wm, aI G n3 8 se, aI G n4 8 cd, aI G n5 8 sl, aI G n6 8 od, aI G n7 72 ow, (j, .inr (1, [.ref j1, .ref j2, .ref j3, .ref j4, .ref j5, .ref j6, .ref j7, .int lo2_12, .int mi2_13, .int sd2_14])), aI G j1 9 ht2_5, aI G j2 8 wm2_6, aI G j3 8 se2_7, aI G j4 8 cd2_8, aI G j5 8 sl2_9, aI G j6 8 od2_10, aI G j7 72 ow2_11, (b0, .inr (0, [.ref b01, .ref b02, .int en])), aI G b01 30 bs, aI G b02 30 bh] := hD
  have hv := hv ht2_5 wm2_6 se2_7 cd2_8 sl2_9 od2_10 ow2_11 lo2_12 mi2_13 sd2_14 hw
  refine lv_aload_n hx hb dX7_judge_11 rfl (lv_at hl 0 rfl) ?_
  refine va_get (D := G.1) (ci := 7) (v := .ref b0) (C := RX7) (T := TX7) (N := 11) hx hb hts hinX7 hown hKK.1 hP 0 rfl rfl 7 (by decide) kl43 (fun _ h9 => h9) rfl dX7_judge_12 ?_
  refine lv_aload_n hx hb dX7_judge_15 rfl (lv_at hl 0 rfl) ?_
  refine va_get (D := G.1) (ci := 7) (v := .ref t) (C := RX7) (T := TX7) (N := 11) hx hb hts hinX7 hown hKK.1 hP 0 rfl rfl 1 (by decide) kl19 (fun _ h9 => h9) rfl dX7_judge_16 ?_
  refine lv_aload_n hx hb dX7_judge_19 rfl (lv_at hl 0 rfl) ?_
  refine va_get (D := G.1) (ci := 7) (v := .ref j) (C := RX7) (T := TX7) (N := 11) hx hb hts hinX7 hown hKK.1 hP 0 rfl rfl 4 (by decide) kl33 (fun _ h9 => h9) rfl dX7_judge_20 ?_
  obtain ⟨gT_15, gNs_16, gNp_17, gv_18, gM_19, gek_20, hv⟩ := hv
  obtain ⟨hp, hv⟩ := hv
  refine x_calli (wr := [(h0, .inr (7, [.ref e0, .ref t, .ref k, .ref n, .ref j, .ref i0, .int kp, .ref b0, .ref s0, .ref q, .ref g])), (n, .inr (1, [.ref n1, .ref n2, .ref n3, .ref n4, .ref n5, .ref n6, .ref n7, .int lo, .int mi, .int sd])), aI G n1 9 ht, aI G n2 8 wm, aI G n3 8 se, aI G n4 8 cd, aI G n5 8 sl, aI G n6 8 od, aI G n7 72 ow]) (w' := fun (u : (Nat → Int32) × (Nat → Int32) × (Nat → Int32) × (Nat → Int32) × (Nat → Int32) × (Nat → Int32) × (Int32) × (Int32)) => [(h0, .inr (7, [.ref e0, .ref t, .ref k, .ref n, .ref j, .ref i0, .int kp, .ref b0, .ref s0, .ref q, .ref g])), (t, .inr (6, [.int ns, .int np, .int fu, .int fd, .int fi, .ref t1, .ref t2, .ref t3, .ref t4, .ref t5, .ref t6])), aI G t1 9 sz_, aI G t2 9 pt, aI G t3 9 fh, aI G t4 8 kd, aI G t5 8 nd, aI G t6 8 fw, (n, .inr (1, [.ref n1, .ref n2, .ref n3, .ref n4, .ref n5, .ref n6, .ref n7, .int lo, .int mi, .int sd])), aI G n1 9 ht, aI G n2 8 wm, aI G n3 8 se, aI G n4 8 cd, aI G n5 8 sl, aI G n6 8 od, aI G n7 72 ow, (j, .inr (1, [.ref j1, .ref j2, .ref j3, .ref j4, .ref j5, .ref j6, .ref j7, .int u.2.2.2.2.2.2.1, .int u.2.2.2.2.2.2.2, .int sd2_14])), aI G j1 9 u.1, aI G j2 8 u.2.1, aI G j3 8 se2_7, aI G j4 8 u.2.2.1, aI G j5 8 u.2.2.2.1, aI G j6 8 u.2.2.2.2.1, aI G j7 72 u.2.2.2.2.2.1, (b0, .inr (0, [.ref b01, .ref b02, .int en])), aI G b01 30 bs, aI G b02 30 bh]) (x_runV (As := [.ref t, .ref j]) (rest := []) (n := 2) (C := RX0) (ci := 0) ⟨hx, hb, hml, hown, hts⟩ (k_X0_firstWrong l G b0 b01 b02 t t1 t2 t3 t4 t5 t6 j j1 j2 j3 j4 j5 j6 j7 _ en bs bh ns np fu fd fi sz_ pt fh kd nd fw ht2_5 wm2_6 se2_7 cd2_8 sl2_9 od2_10 ow2_11 lo2_12 mi2_13 sd2_14 gT_15 gNs_16 gNp_17 gv_18 gM_19 gek_20 hp) gX7_judge_X0_firstWrong rfl (by decide +kernel) ⟨Nat.le_trans (Nat.le_of_ble_eq_true rfl) hRf, Nat.le_trans (Nat.le_of_ble_eq_true rfl) hRl⟩ hKK hSS hS hA hP hD [24, 25, 26, 1, 2, 3, 4, 5, 6, 7, 16, 17, 18, 19, 20, 21, 22, 23] (by decide) rfl rfl rfl 24 rfl rfl hl.1 rfl (Nat.le_of_ble_eq_true rfl) dX7_judge_23) hP hD hS hA [24, 25, 26, 1, 2, 3, 4, 5, 6, 7, 16, 17, 18, 19, 20, 21, 22, 23] [0, 8, 9, 10, 11, 12, 13, 14, 15] [0, 12, 13, 14, 15, 16, 17, 18, 1, 2, 3, 4, 5, 6, 7, 8, 19, 20, 21, 22, 23, 24, 25, 26, 9, 10, 11] rfl rfl (by decide) (by decide) (by decide) (fun _ => rfl) (fun r_21 u H locs hw hP hD hS => ?_)
  obtain ⟨ht2_22, wm2_23, cd2_24, sl2_25, od2_26, ow2_27, lo2_28, mi2_29⟩ := u
  have hP : va_P G.1 vwCl [(h0, .inr (7, [.ref e0, .ref t, .ref k, .ref n, .ref j, .ref i0, .int kp, .ref b0, .ref s0, .ref q, .ref g])), (t, .inr (6, [.int ns, .int np, .int fu, .int fd, .int fi, .ref t1, .ref t2, .ref t3, .ref t4, .ref t5, .ref t6])), aI G t1 9 sz_, aI G t2 9 pt, aI G t3 9 fh, aI G t4 8 kd, aI G t5 8 nd, aI G t6 8 fw, (n, .inr (1, [.ref n1, .ref n2, .ref n3, .ref n4, .ref n5, .ref n6, .ref n7, .int lo, .int mi, .int sd])), aI G n1 9 ht, aI G n2 8 wm, aI G n3 8 se, aI G n4 8 cd, aI G n5 8 sl, aI G n6 8 od, aI G n7 72 ow, (j, .inr (1, [.ref j1, .ref j2, .ref j3, .ref j4, .ref j5, .ref j6, .ref j7, .int lo2_28, .int mi2_29, .int sd2_14])), aI G j1 9 ht2_22, aI G j2 8 wm2_23, aI G j3 8 se2_7, aI G j4 8 cd2_24, aI G j5 8 sl2_25, aI G j6 8 od2_26, aI G j7 72 ow2_27, (b0, .inr (0, [.ref b01, .ref b02, .int en])), aI G b01 30 bs, aI G b02 30 bh] H := hP
  have hD : va_D A [(h0, .inr (7, [.ref e0, .ref t, .ref k, .ref n, .ref j, .ref i0, .int kp, .ref b0, .ref s0, .ref q, .ref g])), (t, .inr (6, [.int ns, .int np, .int fu, .int fd, .int fi, .ref t1, .ref t2, .ref t3, .ref t4, .ref t5, .ref t6])), aI G t1 9 sz_, aI G t2 9 pt, aI G t3 9 fh, aI G t4 8 kd, aI G t5 8 nd, aI G t6 8 fw, (n, .inr (1, [.ref n1, .ref n2, .ref n3, .ref n4, .ref n5, .ref n6, .ref n7, .int lo, .int mi, .int sd])), aI G n1 9 ht, aI G n2 8 wm, aI G n3 8 se, aI G n4 8 cd, aI G n5 8 sl, aI G n6 8 od, aI G n7 72 ow, (j, .inr (1, [.ref j1, .ref j2, .ref j3, .ref j4, .ref j5, .ref j6, .ref j7, .int lo2_28, .int mi2_29, .int sd2_14])), aI G j1 9 ht2_22, aI G j2 8 wm2_23, aI G j3 8 se2_7, aI G j4 8 cd2_24, aI G j5 8 sl2_25, aI G j6 8 od2_26, aI G j7 72 ow2_27, (b0, .inr (0, [.ref b01, .ref b02, .int en])), aI G b01 30 bs, aI G b02 30 bh] := hD
  have hv := hv r_21 ht2_22 wm2_23 cd2_24 sl2_25 od2_26 ow2_27 lo2_28 mi2_29 hw
  exact x_iret (v := r_21) (ht2_22, wm2_23, se2_7, cd2_24, sl2_25, od2_26, ow2_27, lo2_28, mi2_29, sd2_14) hQ hx hb hr hlocks hS dX7_judge_26 hv hP hD
theorem v_X7_judge (l : Launch) (G : Gt) (h0 t t1 t2 t3 t4 t5 t6 n n1 n2 n3 n4 n5 n6 n7 j j1 j2 j3 j4 j5 j6 j7 b0 b01 b02 : Nat) (sz : Nat) (e0 : Nat) (k : Nat) (i0 : Nat) (s0 : Nat) (q : Nat) (g : Nat) (kp : Int32) (ns : Int32) (np : Int32) (fu : Int32) (fd : Int32) (fi : Int32) (sz_ : Nat → Int32) (pt : Nat → Int32) (fh : Nat → Int32) (kd : Nat → Int32) (nd : Nat → Int32) (fw : Nat → Int32) (ht : Nat → Int32) (wm : Nat → Int32) (se : Nat → Int32) (cd : Nat → Int32) (sl : Nat → Int32) (od : Nat → Int32) (ow : Nat → Int32) (lo : Int32) (mi : Int32) (sd : Int32) (htj : Nat → Int32) (wmj : Nat → Int32) (sej : Nat → Int32) (cdj : Nat → Int32) (slj : Nat → Int32) (odj : Nat → Int32) (owj : Nat → Int32) (loj : Int32) (mij : Int32) (sdj : Int32) (en : Int32) (bs : Nat → Int32) (bh : Nat → Int32) (T : Nat → Nat → Int) (Ns : Nat) (Np : Nat) (v : Nat → Int) (M : Int) (ek : Nat) (hp : TOK T Ns Np ∧ CT T Ns Np ns np fu fd fi sz_ pt kd nd ∧ CN Ns Np v ht wm se cd sl od ow lo mi sd ∧ NOK T Ns Np (fun _ => 2 * M) M v ∧ M ≤ 900000 ∧ en = nI ek ∧ ek ≤ 30 ∧ (∀ j, j < ek → 0 ≤ (bs j).toInt ∧ (bs j).toInt < Ns)) : ∃ (gNs_1 : Nat) (gNp_2 : Nat) (gv_3 : Nat → Int), ((CN gNs_1 gNp_2 gv_3 ht wm se cd sl od ow lo mi sd ∧ gNs_1 ≤ 9 ∧ gNp_2 ≤ 8) ∧ (∀ (ht2_5 : Nat → Int32) (wm2_6 : Nat → Int32) (se2_7 : Nat → Int32) (cd2_8 : Nat → Int32) (sl2_9 : Nat → Int32) (od2_10 : Nat → Int32) (ow2_11 : Nat → Int32) (lo2_12 : Int32) (mi2_13 : Int32) (sd2_14 : Int32), (CN gNs_1 gNp_2 gv_3 ht2_5 wm2_6 se2_7 cd2_8 sl2_9 od2_10 ow2_11 lo2_12 mi2_13 sd2_14) → (∃ (gT_15 : Nat → Nat → Int) (gNs_16 : Nat) (gNp_17 : Nat) (gv_18 : Nat → Int) (gM_19 : Int) (gek_20 : Nat), ((TOK gT_15 gNs_16 gNp_17 ∧ CT gT_15 gNs_16 gNp_17 ns np fu fd fi sz_ pt kd nd ∧ CN gNs_16 gNp_17 gv_18 ht2_5 wm2_6 se2_7 cd2_8 sl2_9 od2_10 ow2_11 lo2_12 mi2_13 sd2_14 ∧ NOK gT_15 gNs_16 gNp_17 (fun _ => 2 * gM_19) gM_19 gv_18 ∧ gM_19 ≤ 900000 ∧ en = nI gek_20 ∧ gek_20 ≤ 30 ∧ (∀ j, j < gek_20 → 0 ≤ (bs j).toInt ∧ (bs j).toInt < gNs_16)) ∧ (∀ (r_21 : Int32) (ht2_22 : Nat → Int32) (wm2_23 : Nat → Int32) (cd2_24 : Nat → Int32) (sl2_25 : Nat → Int32) (od2_26 : Nat → Int32) (ow2_27 : Nat → Int32) (lo2_28 : Int32) (mi2_29 : Int32), (r_21.toInt = aJudge gT_15 gNs_16 gNp_17 gv_18 bs bh gek_20) → (r_21.toInt = aJudge T Ns Np v bs bh ek)))))) := by
  obtain ⟨hT, hC, hN, hO, hM, hen, h30, hbk⟩ := hp
  exact ⟨Ns, Np, v, ⟨hN, hT.1, hT.2.1⟩, fun b1 b2 b3 b4 b5 b6 b7 b8 b9 b10 hN0 => ⟨T, Ns, Np, v, M, ek, ⟨hT, hC, hN0, hO, hM, hen, h30, hbk⟩, fun r a1 a2 a3 a4 a5 a6 a7 a8 hr => hr⟩⟩
theorem k_X7_judge (l : Launch) (G : Gt) (h0 t t1 t2 t3 t4 t5 t6 n n1 n2 n3 n4 n5 n6 n7 j j1 j2 j3 j4 j5 j6 j7 b0 b01 b02 : Nat) (sz : Nat) (e0 : Nat) (k : Nat) (i0 : Nat) (s0 : Nat) (q : Nat) (g : Nat) (kp : Int32) (ns : Int32) (np : Int32) (fu : Int32) (fd : Int32) (fi : Int32) (sz_ : Nat → Int32) (pt : Nat → Int32) (fh : Nat → Int32) (kd : Nat → Int32) (nd : Nat → Int32) (fw : Nat → Int32) (ht : Nat → Int32) (wm : Nat → Int32) (se : Nat → Int32) (cd : Nat → Int32) (sl : Nat → Int32) (od : Nat → Int32) (ow : Nat → Int32) (lo : Int32) (mi : Int32) (sd : Int32) (htj : Nat → Int32) (wmj : Nat → Int32) (sej : Nat → Int32) (cdj : Nat → Int32) (slj : Nat → Int32) (odj : Nat → Int32) (owj : Nat → Int32) (loj : Int32) (mij : Int32) (sdj : Int32) (en : Int32) (bs : Nat → Int32) (bh : Nat → Int32) (T : Nat → Nat → Int) (Ns : Nat) (Np : Nat) (v : Nat → Int) (M : Int) (ek : Nat) (hp : TOK T Ns Np ∧ CT T Ns Np ns np fu fd fi sz_ pt kd nd ∧ CN Ns Np v ht wm se cd sl od ow lo mi sd ∧ NOK T Ns Np (fun _ => 2 * M) M v ∧ M ≤ 900000 ∧ en = nI ek ∧ ek ≤ 30 ∧ (∀ j, j < ek → 0 ≤ (bs j).toInt ∧ (bs j).toInt < Ns)) : MetI l yX7_judge wsX7_judge 5 118 G [.ref h0] [(h0, .inr (7, [.ref e0, .ref t, .ref k, .ref n, .ref j, .ref i0, .int kp, .ref b0, .ref s0, .ref q, .ref g])), (t, .inr (6, [.int ns, .int np, .int fu, .int fd, .int fi, .ref t1, .ref t2, .ref t3, .ref t4, .ref t5, .ref t6])), aI G t1 9 sz_, aI G t2 9 pt, aI G t3 9 fh, aI G t4 8 kd, aI G t5 8 nd, aI G t6 8 fw, (n, .inr (1, [.ref n1, .ref n2, .ref n3, .ref n4, .ref n5, .ref n6, .ref n7, .int lo, .int mi, .int sd])), aI G n1 9 ht, aI G n2 8 wm, aI G n3 8 se, aI G n4 8 cd, aI G n5 8 sl, aI G n6 8 od, aI G n7 72 ow, (j, .inr (1, [.ref j1, .ref j2, .ref j3, .ref j4, .ref j5, .ref j6, .ref j7, .int loj, .int mij, .int sdj])), aI G j1 9 htj, aI G j2 8 wmj, aI G j3 8 sej, aI G j4 8 cdj, aI G j5 8 slj, aI G j6 8 odj, aI G j7 72 owj, (b0, .inr (0, [.ref b01, .ref b02, .int en])), aI G b01 30 bs, aI G b02 30 bh] sz (fun (r : Int32) (u : (Nat → Int32) × (Nat → Int32) × (Nat → Int32) × (Nat → Int32) × (Nat → Int32) × (Nat → Int32) × (Nat → Int32) × (Int32) × (Int32) × (Int32)) => r.toInt = aJudge T Ns Np v bs bh ek) (fun (u : (Nat → Int32) × (Nat → Int32) × (Nat → Int32) × (Nat → Int32) × (Nat → Int32) × (Nat → Int32) × (Nat → Int32) × (Int32) × (Int32) × (Int32)) => [(h0, .inr (7, [.ref e0, .ref t, .ref k, .ref n, .ref j, .ref i0, .int kp, .ref b0, .ref s0, .ref q, .ref g])), (t, .inr (6, [.int ns, .int np, .int fu, .int fd, .int fi, .ref t1, .ref t2, .ref t3, .ref t4, .ref t5, .ref t6])), aI G t1 9 sz_, aI G t2 9 pt, aI G t3 9 fh, aI G t4 8 kd, aI G t5 8 nd, aI G t6 8 fw, (n, .inr (1, [.ref n1, .ref n2, .ref n3, .ref n4, .ref n5, .ref n6, .ref n7, .int lo, .int mi, .int sd])), aI G n1 9 ht, aI G n2 8 wm, aI G n3 8 se, aI G n4 8 cd, aI G n5 8 sl, aI G n6 8 od, aI G n7 72 ow, (j, .inr (1, [.ref j1, .ref j2, .ref j3, .ref j4, .ref j5, .ref j6, .ref j7, .int u.2.2.2.2.2.2.2.1, .int u.2.2.2.2.2.2.2.2.1, .int u.2.2.2.2.2.2.2.2.2])), aI G j1 9 u.1, aI G j2 8 u.2.1, aI G j3 8 u.2.2.1, aI G j4 8 u.2.2.2.1, aI G j5 8 u.2.2.2.2.1, aI G j6 8 u.2.2.2.2.2.1, aI G j7 72 u.2.2.2.2.2.2.1, (b0, .inr (0, [.ref b01, .ref b02, .int en])), aI G b01 30 bs, aI G b02 30 bh]) :=
  c_X7_judge l G h0 t t1 t2 t3 t4 t5 t6 n n1 n2 n3 n4 n5 n6 n7 j j1 j2 j3 j4 j5 j6 j7 b0 b01 b02 sz e0 k i0 s0 q g kp ns np fu fd fi sz_ pt fh kd nd fw ht wm se cd sl od ow lo mi sd htj wmj sej cdj slj odj owj loj mij sdj en bs bh T Ns Np v M ek (v_X7_judge l G h0 t t1 t2 t3 t4 t5 t6 n n1 n2 n3 n4 n5 n6 n7 j j1 j2 j3 j4 j5 j6 j7 b0 b01 b02 sz e0 k i0 s0 q g kp ns np fu fd fi sz_ pt fh kd nd fw ht wm se cd sl od ow lo mi sd htj wmj sej cdj slj odj owj loj mij sdj en bs bh T Ns Np v M ek hp)

set_option maxHeartbeats 4000000 in
set_option maxRecDepth 100000 in
theorem c_X7_seed (l : Launch) (G : Gt) (h0 n n1 n2 n3 n4 n5 n6 n7 : Nat) (sz : Nat) (e0 : Nat) (t : Nat) (k : Nat) (j : Nat) (i0 : Nat) (b0 : Nat) (s0 : Nat) (q : Nat) (g : Nat) (kp : Int32) (ht : Nat → Int32) (wm : Nat → Int32) (se : Nat → Int32) (cd : Nat → Int32) (sl : Nat → Int32) (od : Nat → Int32) (ow : Nat → Int32) (lo : Int32) (mi : Int32) (sd : Int32) (x : Int32) (Ns : Nat) (Np : Nat) (v : Nat → Int) (hv : (0 ≤ x → sd.toInt = (qSeed v x.toInt).1 ∧ CN Ns Np (qSeed v x.toInt).2 ht wm se cd sl od ow lo mi x) ∧ (¬ (0 ≤ x) → ((-1000000002) : Int32).toInt = (qSeed v x.toInt).1 ∧ CN Ns Np (qSeed v x.toInt).2 ht wm se cd sl od ow lo mi sd)) : MetI l yX7_seed wsX7_seed 0 0 G [.ref h0, .int x] [(h0, .inr (7, [.ref e0, .ref t, .ref k, .ref n, .ref j, .ref i0, .int kp, .ref b0, .ref s0, .ref q, .ref g])), (n, .inr (1, [.ref n1, .ref n2, .ref n3, .ref n4, .ref n5, .ref n6, .ref n7, .int lo, .int mi, .int sd])), aI G n1 9 ht, aI G n2 8 wm, aI G n3 8 se, aI G n4 8 cd, aI G n5 8 sl, aI G n6 8 od, aI G n7 72 ow] sz (fun (r : Int32) (u : (Int32)) => r.toInt = (qSeed v x.toInt).1 ∧ CN Ns Np (qSeed v x.toInt).2 ht wm se cd sl od ow lo mi u) (fun (u : (Int32)) => [(h0, .inr (7, [.ref e0, .ref t, .ref k, .ref n, .ref j, .ref i0, .int kp, .ref b0, .ref s0, .ref q, .ref g])), (n, .inr (1, [.ref n1, .ref n2, .ref n3, .ref n4, .ref n5, .ref n6, .ref n7, .int lo, .int mi, .int u])), aI G n1 9 ht, aI G n2 8 wm, aI G n3 8 se, aI G n4 8 cd, aI G n5 8 sl, aI G n6 8 od, aI G n7 72 ow]) := by
  refine x_startI (cc := cX7_seed) (maxL := 3) (ret := (some .int)) (by decide) rfl (Nat.le_of_ble_eq_true rfl) ?_
  intro p e s m args below meth c A R Q ls hRf hRl hQ C hP hD hS hA hSS hl
  obtain ⟨hx, hb, hr, hml, hown, hts, hlocks, hKK⟩ := C
  have hown : s.vm.findClass RX7 = some m.cls := hown
  have hl : lv_has ls 3 [(0, .ref h0), (1, .int x)] := hl
  have hinX1 : ∀ w ∈ u_ws RX1 TX1 10, w ∈ wsX7_seed := by decide +kernel
  have hinX7 : ∀ w ∈ u_ws RX7 TX7 11, w ∈ wsX7_seed := by decide +kernel
  have kl236 := hts (.fieldLink RX7 236 "WarmStones$Night" "seed" "I") (by decide +kernel)
  have kl29 := hts (.fieldLink RX7 29 "WarmStones" "night" "LWarmStones$Night;") (by decide +kernel)
  have kl72 := hts (.constant RX7 72 (-1000000002)) (by decide +kernel)
  refine lv_iload_n hx hb dX7_seed_0 rfl (lv_at hl 1 rfl) ?_
  refine lv_if_ge (tgt := 7) hx hb dX7_seed_1 (by decide) (fun hc_1 => ?_) (fun hc_1 => ?_)
  · have hv := hv.1 hc_1
    refine lv_aload_n hx hb dX7_seed_7 rfl (lv_at hl 0 rfl) ?_
    refine va_get (D := G.1) (ci := 7) (v := .ref n) (C := RX7) (T := TX7) (N := 11) hx hb hts hinX7 hown hKK.1 hP 0 rfl rfl 3 (by decide) kl29 (fun _ h9 => h9) rfl dX7_seed_8 ?_
    refine va_get (D := G.1) (ci := 1) (v := .int sd) (C := RX1) (T := TX1) (N := 10) hx hb hts hinX1 hown hKK.1 hP 1 rfl rfl 9 (by decide) kl236 (fun _ h9 => h9) rfl dX7_seed_11 ?_
    refine lv_istore_n (lv' := [(2, .int sd), (0, .ref h0), (1, .int x)]) hx hb dX7_seed_14 rfl hl (by decide) rfl (fun ls hl => ?_)
    refine lv_aload_n hx hb dX7_seed_15 rfl (lv_at hl 1 rfl) ?_
    refine va_get (D := G.1) (ci := 7) (v := .ref n) (C := RX7) (T := TX7) (N := 11) hx hb hts hinX7 hown hKK.1 hP 0 rfl rfl 3 (by decide) kl29 (fun _ h9 => h9) rfl dX7_seed_16 ?_
    refine lv_iload_n hx hb dX7_seed_19 rfl (lv_at hl 2 rfl) ?_
    refine va_put (D := G.1) (ci := 1) (v := .int x) (ty := .int) (C := RX1) (T := TX1) (N := 10) hx hb hts hinX1 tyX1 tyX1_ok nmX1 hown hKK.1 hP hD hS 1 rfl rfl 9 (by decide) kl236 (fun _ h9 => h9) rfl (by decide +kernel) rfl rfl (Nat.le_of_ble_eq_true rfl) dX7_seed_20 (fun H locs hP hD hS => ?_)
    have hP : va_P G.1 vwCl [(h0, .inr (7, [.ref e0, .ref t, .ref k, .ref n, .ref j, .ref i0, .int kp, .ref b0, .ref s0, .ref q, .ref g])), (n, .inr (1, [.ref n1, .ref n2, .ref n3, .ref n4, .ref n5, .ref n6, .ref n7, .int lo, .int mi, .int x])), aI G n1 9 ht, aI G n2 8 wm, aI G n3 8 se, aI G n4 8 cd, aI G n5 8 sl, aI G n6 8 od, aI G n7 72 ow] H := hP
    have hD : va_D A [(h0, .inr (7, [.ref e0, .ref t, .ref k, .ref n, .ref j, .ref i0, .int kp, .ref b0, .ref s0, .ref q, .ref g])), (n, .inr (1, [.ref n1, .ref n2, .ref n3, .ref n4, .ref n5, .ref n6, .ref n7, .int lo, .int mi, .int x])), aI G n1 9 ht, aI G n2 8 wm, aI G n3 8 se, aI G n4 8 cd, aI G n5 8 sl, aI G n6 8 od, aI G n7 72 ow] := hD
    refine lv_iload_n hx hb dX7_seed_23 rfl (lv_at hl 0 rfl) ?_
    exact x_iret (v := sd) x hQ hx hb hr hlocks hS dX7_seed_24 hv hP hD
  · have hv := hv.2 hc_1
    refine lv_ldc (v := (-1000000002)) hx hb hown kl72 dX7_seed_4 ?_
    exact x_iret (v := (-1000000002)) sd hQ hx hb hr hlocks hS dX7_seed_6 hv hP hD
theorem v_X7_seed (l : Launch) (G : Gt) (h0 n n1 n2 n3 n4 n5 n6 n7 : Nat) (sz : Nat) (e0 : Nat) (t : Nat) (k : Nat) (j : Nat) (i0 : Nat) (b0 : Nat) (s0 : Nat) (q : Nat) (g : Nat) (kp : Int32) (ht : Nat → Int32) (wm : Nat → Int32) (se : Nat → Int32) (cd : Nat → Int32) (sl : Nat → Int32) (od : Nat → Int32) (ow : Nat → Int32) (lo : Int32) (mi : Int32) (sd : Int32) (x : Int32) (Ns : Nat) (Np : Nat) (v : Nat → Int) (hp : CN Ns Np v ht wm se cd sl od ow lo mi sd) : (0 ≤ x → sd.toInt = (qSeed v x.toInt).1 ∧ CN Ns Np (qSeed v x.toInt).2 ht wm se cd sl od ow lo mi x) ∧ (¬ (0 ≤ x) → ((-1000000002) : Int32).toInt = (qSeed v x.toInt).1 ∧ CN Ns Np (qSeed v x.toInt).2 ht wm se cd sl od ow lo mi sd) := by
  have hN := hp
  have hx : (0 : Int32) ≤ x ↔ 0 ≤ x.toInt := i_le rfl rfl
  refine ⟨fun h => ?_, fun h => ?_⟩
  · have := hx.mp h
    rw [qSeed, if_neg (by omega)]; exact ⟨hN.e, CN_seed hN rfl⟩
  · have := mt hx.mpr h
    rw [qSeed, if_pos (by omega)]; exact ⟨rfl, hN⟩
theorem k_X7_seed (l : Launch) (G : Gt) (h0 n n1 n2 n3 n4 n5 n6 n7 : Nat) (sz : Nat) (e0 : Nat) (t : Nat) (k : Nat) (j : Nat) (i0 : Nat) (b0 : Nat) (s0 : Nat) (q : Nat) (g : Nat) (kp : Int32) (ht : Nat → Int32) (wm : Nat → Int32) (se : Nat → Int32) (cd : Nat → Int32) (sl : Nat → Int32) (od : Nat → Int32) (ow : Nat → Int32) (lo : Int32) (mi : Int32) (sd : Int32) (x : Int32) (Ns : Nat) (Np : Nat) (v : Nat → Int) (hp : CN Ns Np v ht wm se cd sl od ow lo mi sd) : MetI l yX7_seed wsX7_seed 0 0 G [.ref h0, .int x] [(h0, .inr (7, [.ref e0, .ref t, .ref k, .ref n, .ref j, .ref i0, .int kp, .ref b0, .ref s0, .ref q, .ref g])), (n, .inr (1, [.ref n1, .ref n2, .ref n3, .ref n4, .ref n5, .ref n6, .ref n7, .int lo, .int mi, .int sd])), aI G n1 9 ht, aI G n2 8 wm, aI G n3 8 se, aI G n4 8 cd, aI G n5 8 sl, aI G n6 8 od, aI G n7 72 ow] sz (fun (r : Int32) (u : (Int32)) => r.toInt = (qSeed v x.toInt).1 ∧ CN Ns Np (qSeed v x.toInt).2 ht wm se cd sl od ow lo mi u) (fun (u : (Int32)) => [(h0, .inr (7, [.ref e0, .ref t, .ref k, .ref n, .ref j, .ref i0, .int kp, .ref b0, .ref s0, .ref q, .ref g])), (n, .inr (1, [.ref n1, .ref n2, .ref n3, .ref n4, .ref n5, .ref n6, .ref n7, .int lo, .int mi, .int u])), aI G n1 9 ht, aI G n2 8 wm, aI G n3 8 se, aI G n4 8 cd, aI G n5 8 sl, aI G n6 8 od, aI G n7 72 ow]) :=
  c_X7_seed l G h0 n n1 n2 n3 n4 n5 n6 n7 sz e0 t k j i0 b0 s0 q g kp ht wm se cd sl od ow lo mi sd x Ns Np v (v_X7_seed l G h0 n n1 n2 n3 n4 n5 n6 n7 sz e0 t k j i0 b0 s0 q g kp ht wm se cd sl od ow lo mi sd x Ns Np v hp)

set_option maxHeartbeats 4000000 in
set_option maxRecDepth 100000 in
theorem c_X7_keep (l : Launch) (G : Gt) (h0 n n1 n2 n3 n4 n5 n6 n7 i0 y y1 y2 y3 y4 y5 y6 y7 z z1 z2 z3 z4 z5 z6 z7 : Nat) (sz : Nat) (e0 : Nat) (t : Nat) (k : Nat) (j : Nat) (b0 : Nat) (s0 : Nat) (q : Nat) (g : Nat) (kp : Int32) (ht : Nat → Int32) (wm : Nat → Int32) (se : Nat → Int32) (cd : Nat → Int32) (sl : Nat → Int32) (od : Nat → Int32) (ow : Nat → Int32) (lo : Int32) (mi : Int32) (sd : Int32) (hty : Nat → Int32) (wmy : Nat → Int32) (sey : Nat → Int32) (cdy : Nat → Int32) (sly : Nat → Int32) (ody : Nat → Int32) (owy : Nat → Int32) (loy : Int32) (miy : Int32) (sdy : Int32) (htz : Nat → Int32) (wmz : Nat → Int32) (sez : Nat → Int32) (cdz : Nat → Int32) (slz : Nat → Int32) (odz : Nat → Int32) (owz : Nat → Int32) (loz : Int32) (miz : Int32) (sdz : Int32) (x : Int32) (Ns : Nat) (Np : Nat) (v : Nat → Int) (hv : (¬ x < 0 ∧ ¬ 1 < x → (x = 0 ∨ x = 1) ∧ ((x = 0 → ∃ (gNs_3 : Nat) (gNp_4 : Nat) (gv_5 : Nat → Int), ((CN gNs_3 gNp_4 gv_5 ht wm se cd sl od ow lo mi sd ∧ gNs_3 ≤ 9 ∧ gNp_4 ≤ 8) ∧ (∀ (ht2_7 : Nat → Int32) (wm2_8 : Nat → Int32) (se2_9 : Nat → Int32) (cd2_10 : Nat → Int32) (sl2_11 : Nat → Int32) (od2_12 : Nat → Int32) (ow2_13 : Nat → Int32) (lo2_14 : Int32) (mi2_15 : Int32) (sd2_16 : Int32), (CN gNs_3 gNp_4 gv_5 ht2_7 wm2_8 se2_9 cd2_10 sl2_11 od2_12 ow2_13 lo2_14 mi2_15 sd2_16) → (((¬ (0 ≤ x.toInt ∧ x.toInt ≤ 1) ∧ (1 : Int32) = -1000000001 ∧ (kp ||| ((1 : Int32) <<< (x &&& 31))) = kp ∧ ht2_7 = hty ∧ wm2_8 = wmy ∧ se2_9 = sey ∧ cd2_10 = cdy ∧ sl2_11 = sly ∧ od2_12 = ody ∧ ow2_13 = owy ∧ lo2_14 = loy ∧ mi2_15 = miy ∧ sd2_16 = sdy ∧ htz = htz ∧ wmz = wmz ∧ sez = sez ∧ cdz = cdz ∧ slz = slz ∧ odz = odz ∧ owz = owz ∧ loz = loz ∧ miz = miz ∧ sdz = sdz) ∨ (x.toInt = 0 ∧ (1 : Int32) = 1 ∧ (kp ||| ((1 : Int32) <<< (x &&& 31))) = (kp ||| 1) ∧ CN Ns Np v ht2_7 wm2_8 se2_9 cd2_10 sl2_11 od2_12 ow2_13 lo2_14 mi2_15 sd2_16 ∧ htz = htz ∧ wmz = wmz ∧ sez = sez ∧ cdz = cdz ∧ slz = slz ∧ odz = odz ∧ owz = owz ∧ loz = loz ∧ miz = miz ∧ sdz = sdz) ∨ (x.toInt = 1 ∧ (1 : Int32) = 1 ∧ (kp ||| ((1 : Int32) <<< (x &&& 31))) = (kp ||| 2) ∧ ht2_7 = hty ∧ wm2_8 = wmy ∧ se2_9 = sey ∧ cd2_10 = cdy ∧ sl2_11 = sly ∧ od2_12 = ody ∧ ow2_13 = owy ∧ lo2_14 = loy ∧ mi2_15 = miy ∧ sd2_16 = sdy ∧ CN Ns Np v htz wmz sez cdz slz odz owz loz miz sdz)))))) ∧ (x = 1 → ∃ (gNs_18 : Nat) (gNp_19 : Nat) (gv_20 : Nat → Int), ((CN gNs_18 gNp_19 gv_20 ht wm se cd sl od ow lo mi sd ∧ gNs_18 ≤ 9 ∧ gNp_19 ≤ 8) ∧ (∀ (ht2_22 : Nat → Int32) (wm2_23 : Nat → Int32) (se2_24 : Nat → Int32) (cd2_25 : Nat → Int32) (sl2_26 : Nat → Int32) (od2_27 : Nat → Int32) (ow2_28 : Nat → Int32) (lo2_29 : Int32) (mi2_30 : Int32) (sd2_31 : Int32), (CN gNs_18 gNp_19 gv_20 ht2_22 wm2_23 se2_24 cd2_25 sl2_26 od2_27 ow2_28 lo2_29 mi2_30 sd2_31) → (((¬ (0 ≤ x.toInt ∧ x.toInt ≤ 1) ∧ (1 : Int32) = -1000000001 ∧ (kp ||| ((1 : Int32) <<< (x &&& 31))) = kp ∧ hty = hty ∧ wmy = wmy ∧ sey = sey ∧ cdy = cdy ∧ sly = sly ∧ ody = ody ∧ owy = owy ∧ loy = loy ∧ miy = miy ∧ sdy = sdy ∧ ht2_22 = htz ∧ wm2_23 = wmz ∧ se2_24 = sez ∧ cd2_25 = cdz ∧ sl2_26 = slz ∧ od2_27 = odz ∧ ow2_28 = owz ∧ lo2_29 = loz ∧ mi2_30 = miz ∧ sd2_31 = sdz) ∨ (x.toInt = 0 ∧ (1 : Int32) = 1 ∧ (kp ||| ((1 : Int32) <<< (x &&& 31))) = (kp ||| 1) ∧ CN Ns Np v hty wmy sey cdy sly ody owy loy miy sdy ∧ ht2_22 = htz ∧ wm2_23 = wmz ∧ se2_24 = sez ∧ cd2_25 = cdz ∧ sl2_26 = slz ∧ od2_27 = odz ∧ ow2_28 = owz ∧ lo2_29 = loz ∧ mi2_30 = miz ∧ sd2_31 = sdz) ∨ (x.toInt = 1 ∧ (1 : Int32) = 1 ∧ (kp ||| ((1 : Int32) <<< (x &&& 31))) = (kp ||| 2) ∧ hty = hty ∧ wmy = wmy ∧ sey = sey ∧ cdy = cdy ∧ sly = sly ∧ ody = ody ∧ owy = owy ∧ loy = loy ∧ miy = miy ∧ sdy = sdy ∧ CN Ns Np v ht2_22 wm2_23 se2_24 cd2_25 sl2_26 od2_27 ow2_28 lo2_29 mi2_30 sd2_31)))))))) ∧ (¬ (¬ x < 0 ∧ ¬ 1 < x) → ((¬ (0 ≤ x.toInt ∧ x.toInt ≤ 1) ∧ ((-1000000001) : Int32) = -1000000001 ∧ kp = kp ∧ hty = hty ∧ wmy = wmy ∧ sey = sey ∧ cdy = cdy ∧ sly = sly ∧ ody = ody ∧ owy = owy ∧ loy = loy ∧ miy = miy ∧ sdy = sdy ∧ htz = htz ∧ wmz = wmz ∧ sez = sez ∧ cdz = cdz ∧ slz = slz ∧ odz = odz ∧ owz = owz ∧ loz = loz ∧ miz = miz ∧ sdz = sdz) ∨ (x.toInt = 0 ∧ ((-1000000001) : Int32) = 1 ∧ kp = (kp ||| 1) ∧ CN Ns Np v hty wmy sey cdy sly ody owy loy miy sdy ∧ htz = htz ∧ wmz = wmz ∧ sez = sez ∧ cdz = cdz ∧ slz = slz ∧ odz = odz ∧ owz = owz ∧ loz = loz ∧ miz = miz ∧ sdz = sdz) ∨ (x.toInt = 1 ∧ ((-1000000001) : Int32) = 1 ∧ kp = (kp ||| 2) ∧ hty = hty ∧ wmy = wmy ∧ sey = sey ∧ cdy = cdy ∧ sly = sly ∧ ody = ody ∧ owy = owy ∧ loy = loy ∧ miy = miy ∧ sdy = sdy ∧ CN Ns Np v htz wmz sez cdz slz odz owz loz miz sdz)))) : MetI l yX7_keep wsX7_keep 2 51 G [.ref h0, .int x] [(h0, .inr (7, [.ref e0, .ref t, .ref k, .ref n, .ref j, .ref i0, .int kp, .ref b0, .ref s0, .ref q, .ref g])), (n, .inr (1, [.ref n1, .ref n2, .ref n3, .ref n4, .ref n5, .ref n6, .ref n7, .int lo, .int mi, .int sd])), aI G n1 9 ht, aI G n2 8 wm, aI G n3 8 se, aI G n4 8 cd, aI G n5 8 sl, aI G n6 8 od, aI G n7 72 ow, aN G i0 2 (fun k => if k = 0 then some y else some z), (y, .inr (1, [.ref y1, .ref y2, .ref y3, .ref y4, .ref y5, .ref y6, .ref y7, .int loy, .int miy, .int sdy])), aI G y1 9 hty, aI G y2 8 wmy, aI G y3 8 sey, aI G y4 8 cdy, aI G y5 8 sly, aI G y6 8 ody, aI G y7 72 owy, (z, .inr (1, [.ref z1, .ref z2, .ref z3, .ref z4, .ref z5, .ref z6, .ref z7, .int loz, .int miz, .int sdz])), aI G z1 9 htz, aI G z2 8 wmz, aI G z3 8 sez, aI G z4 8 cdz, aI G z5 8 slz, aI G z6 8 odz, aI G z7 72 owz] sz (fun (r : Int32) (u : (Nat → Int32) × (Nat → Int32) × (Nat → Int32) × (Nat → Int32) × (Nat → Int32) × (Nat → Int32) × (Nat → Int32) × (Int32) × (Int32) × (Int32) × (Nat → Int32) × (Nat → Int32) × (Nat → Int32) × (Nat → Int32) × (Nat → Int32) × (Nat → Int32) × (Nat → Int32) × (Int32) × (Int32) × (Int32) × (Int32)) => ((¬ (0 ≤ x.toInt ∧ x.toInt ≤ 1) ∧ r = -1000000001 ∧ u.2.2.2.2.2.2.2.2.2.2.2.2.2.2.2.2.2.2.2.2 = kp ∧ u.1 = hty ∧ u.2.1 = wmy ∧ u.2.2.1 = sey ∧ u.2.2.2.1 = cdy ∧ u.2.2.2.2.1 = sly ∧ u.2.2.2.2.2.1 = ody ∧ u.2.2.2.2.2.2.1 = owy ∧ u.2.2.2.2.2.2.2.1 = loy ∧ u.2.2.2.2.2.2.2.2.1 = miy ∧ u.2.2.2.2.2.2.2.2.2.1 = sdy ∧ u.2.2.2.2.2.2.2.2.2.2.1 = htz ∧ u.2.2.2.2.2.2.2.2.2.2.2.1 = wmz ∧ u.2.2.2.2.2.2.2.2.2.2.2.2.1 = sez ∧ u.2.2.2.2.2.2.2.2.2.2.2.2.2.1 = cdz ∧ u.2.2.2.2.2.2.2.2.2.2.2.2.2.2.1 = slz ∧ u.2.2.2.2.2.2.2.2.2.2.2.2.2.2.2.1 = odz ∧ u.2.2.2.2.2.2.2.2.2.2.2.2.2.2.2.2.1 = owz ∧ u.2.2.2.2.2.2.2.2.2.2.2.2.2.2.2.2.2.1 = loz ∧ u.2.2.2.2.2.2.2.2.2.2.2.2.2.2.2.2.2.2.1 = miz ∧ u.2.2.2.2.2.2.2.2.2.2.2.2.2.2.2.2.2.2.2.1 = sdz) ∨ (x.toInt = 0 ∧ r = 1 ∧ u.2.2.2.2.2.2.2.2.2.2.2.2.2.2.2.2.2.2.2.2 = (kp ||| 1) ∧ CN Ns Np v u.1 u.2.1 u.2.2.1 u.2.2.2.1 u.2.2.2.2.1 u.2.2.2.2.2.1 u.2.2.2.2.2.2.1 u.2.2.2.2.2.2.2.1 u.2.2.2.2.2.2.2.2.1 u.2.2.2.2.2.2.2.2.2.1 ∧ u.2.2.2.2.2.2.2.2.2.2.1 = htz ∧ u.2.2.2.2.2.2.2.2.2.2.2.1 = wmz ∧ u.2.2.2.2.2.2.2.2.2.2.2.2.1 = sez ∧ u.2.2.2.2.2.2.2.2.2.2.2.2.2.1 = cdz ∧ u.2.2.2.2.2.2.2.2.2.2.2.2.2.2.1 = slz ∧ u.2.2.2.2.2.2.2.2.2.2.2.2.2.2.2.1 = odz ∧ u.2.2.2.2.2.2.2.2.2.2.2.2.2.2.2.2.1 = owz ∧ u.2.2.2.2.2.2.2.2.2.2.2.2.2.2.2.2.2.1 = loz ∧ u.2.2.2.2.2.2.2.2.2.2.2.2.2.2.2.2.2.2.1 = miz ∧ u.2.2.2.2.2.2.2.2.2.2.2.2.2.2.2.2.2.2.2.1 = sdz) ∨ (x.toInt = 1 ∧ r = 1 ∧ u.2.2.2.2.2.2.2.2.2.2.2.2.2.2.2.2.2.2.2.2 = (kp ||| 2) ∧ u.1 = hty ∧ u.2.1 = wmy ∧ u.2.2.1 = sey ∧ u.2.2.2.1 = cdy ∧ u.2.2.2.2.1 = sly ∧ u.2.2.2.2.2.1 = ody ∧ u.2.2.2.2.2.2.1 = owy ∧ u.2.2.2.2.2.2.2.1 = loy ∧ u.2.2.2.2.2.2.2.2.1 = miy ∧ u.2.2.2.2.2.2.2.2.2.1 = sdy ∧ CN Ns Np v u.2.2.2.2.2.2.2.2.2.2.1 u.2.2.2.2.2.2.2.2.2.2.2.1 u.2.2.2.2.2.2.2.2.2.2.2.2.1 u.2.2.2.2.2.2.2.2.2.2.2.2.2.1 u.2.2.2.2.2.2.2.2.2.2.2.2.2.2.1 u.2.2.2.2.2.2.2.2.2.2.2.2.2.2.2.1 u.2.2.2.2.2.2.2.2.2.2.2.2.2.2.2.2.1 u.2.2.2.2.2.2.2.2.2.2.2.2.2.2.2.2.2.1 u.2.2.2.2.2.2.2.2.2.2.2.2.2.2.2.2.2.2.1 u.2.2.2.2.2.2.2.2.2.2.2.2.2.2.2.2.2.2.2.1))) (fun (u : (Nat → Int32) × (Nat → Int32) × (Nat → Int32) × (Nat → Int32) × (Nat → Int32) × (Nat → Int32) × (Nat → Int32) × (Int32) × (Int32) × (Int32) × (Nat → Int32) × (Nat → Int32) × (Nat → Int32) × (Nat → Int32) × (Nat → Int32) × (Nat → Int32) × (Nat → Int32) × (Int32) × (Int32) × (Int32) × (Int32)) => [(h0, .inr (7, [.ref e0, .ref t, .ref k, .ref n, .ref j, .ref i0, .int u.2.2.2.2.2.2.2.2.2.2.2.2.2.2.2.2.2.2.2.2, .ref b0, .ref s0, .ref q, .ref g])), (n, .inr (1, [.ref n1, .ref n2, .ref n3, .ref n4, .ref n5, .ref n6, .ref n7, .int lo, .int mi, .int sd])), aI G n1 9 ht, aI G n2 8 wm, aI G n3 8 se, aI G n4 8 cd, aI G n5 8 sl, aI G n6 8 od, aI G n7 72 ow, aN G i0 2 (fun k => if k = 0 then some y else some z), (y, .inr (1, [.ref y1, .ref y2, .ref y3, .ref y4, .ref y5, .ref y6, .ref y7, .int u.2.2.2.2.2.2.2.1, .int u.2.2.2.2.2.2.2.2.1, .int u.2.2.2.2.2.2.2.2.2.1])), aI G y1 9 u.1, aI G y2 8 u.2.1, aI G y3 8 u.2.2.1, aI G y4 8 u.2.2.2.1, aI G y5 8 u.2.2.2.2.1, aI G y6 8 u.2.2.2.2.2.1, aI G y7 72 u.2.2.2.2.2.2.1, (z, .inr (1, [.ref z1, .ref z2, .ref z3, .ref z4, .ref z5, .ref z6, .ref z7, .int u.2.2.2.2.2.2.2.2.2.2.2.2.2.2.2.2.2.1, .int u.2.2.2.2.2.2.2.2.2.2.2.2.2.2.2.2.2.2.1, .int u.2.2.2.2.2.2.2.2.2.2.2.2.2.2.2.2.2.2.2.1])), aI G z1 9 u.2.2.2.2.2.2.2.2.2.2.1, aI G z2 8 u.2.2.2.2.2.2.2.2.2.2.2.1, aI G z3 8 u.2.2.2.2.2.2.2.2.2.2.2.2.1, aI G z4 8 u.2.2.2.2.2.2.2.2.2.2.2.2.2.1, aI G z5 8 u.2.2.2.2.2.2.2.2.2.2.2.2.2.2.1, aI G z6 8 u.2.2.2.2.2.2.2.2.2.2.2.2.2.2.2.1, aI G z7 72 u.2.2.2.2.2.2.2.2.2.2.2.2.2.2.2.2.1]) := by
  refine x_startI (cc := cX7_keep) (maxL := 2) (ret := (some .int)) (by decide) rfl (Nat.le_of_ble_eq_true rfl) ?_
  intro p e s m args below meth c A R Q ls hRf hRl hQ C hP hD hS hA hSS hl
  obtain ⟨hx, hb, hr, hml, hown, hts, hlocks, hKK⟩ := C
  have hown : s.vm.findClass RX7 = some m.cls := hown
  have hl : lv_has ls 2 [(0, .ref h0), (1, .int x)] := hl
  have hinX7 : ∀ w ∈ u_ws RX7 TX7 11, w ∈ wsX7_keep := by decide +kernel
  have kl143 := hts (.constant RX7 143 (-1000000001)) (by decide +kernel)
  have kl29 := hts (.fieldLink RX7 29 "WarmStones" "night" "LWarmStones$Night;") (by decide +kernel)
  have kl36 := hts (.fieldLink RX7 36 "WarmStones" "images" "[LWarmStones$Night;") (by decide +kernel)
  have kl97 := hts (.fieldLink RX7 97 "WarmStones" "kept" "I") (by decide +kernel)
  refine lv_iload_n hx hb dX7_keep_0 rfl (lv_at hl 1 rfl) ?_
  refine lv_iconst (v := 0) hx hb dX7_keep_1 (by decide) ?_
  refine lv_iconst (v := 1) hx hb dX7_keep_2 (by decide) ?_
  refine x_calliR (x_runS (As := [.int x, .int 0, .int 1]) (rest := []) (n := 3) ⟨hx, hb, hml, hown, hts⟩ (k_X7_within l G  _ x 0 1) gX7_keep_X7_within rfl (by decide +kernel) ⟨Nat.le_trans (Nat.le_of_ble_eq_true rfl) hRf, Nat.le_trans (Nat.le_of_ble_eq_true rfl) hRl⟩ hKK hSS hS hA hP hD [] (by decide) rfl rfl hl.1 rfl (Nat.le_of_ble_eq_true rfl) dX7_keep_3) hP hD hS hA [] rfl (fun r_1 _ H locs hw hP hS => ?_)
  replace hw := hw.symm; subst hw
  refine lv_if_ne (tgt := 12) hx hb dX7_keep_6 (by decide) (fun hc_2 => ?_) (fun hc_2 => ?_)
  · have hv := hv.1 (tv_eqn.mp hc_2)
    refine lv_aload_n hx hb dX7_keep_12 rfl (lv_at hl 0 rfl) ?_
    refine va_get (D := G.1) (ci := 7) (v := .ref i0) (C := RX7) (T := TX7) (N := 11) hx hb hts hinX7 hown hKK.1 hP 0 rfl rfl 5 (by decide) kl36 (fun _ h9 => h9) rfl dX7_keep_13 ?_
    refine lv_iload_n hx hb dX7_keep_16 rfl (lv_at hl 1 rfl) ?_
    obtain ⟨h01, hv⟩ := hv
    rcases h01 with hk_17 | hk_32
    · have hv := hv.1 hk_17
      refine va_aldq hx hb hKK.1 hP 9 4 rfl rfl (by rw [hk_17]; unfold vp_in; decide) dX7_keep_17 ?_
      refine W.eq (g2 := F0 m 18 ls [.ref y]) (by rw [hk_17]; rfl) ?_
      refine lv_aload_n hx hb dX7_keep_18 rfl (lv_at hl 0 rfl) ?_
      refine va_get (D := G.1) (ci := 7) (v := .ref n) (C := RX7) (T := TX7) (N := 11) hx hb hts hinX7 hown hKK.1 hP 0 rfl rfl 3 (by decide) kl29 (fun _ h9 => h9) rfl dX7_keep_19 ?_
      obtain ⟨gNs_3, gNp_4, gv_5, hv⟩ := hv
      obtain ⟨hp, hv⟩ := hv
      refine x_callv (wr := [(h0, .inr (7, [.ref e0, .ref t, .ref k, .ref n, .ref j, .ref i0, .int kp, .ref b0, .ref s0, .ref q, .ref g])), aN G i0 2 (fun k => if k = 0 then some y else some z), (z, .inr (1, [.ref z1, .ref z2, .ref z3, .ref z4, .ref z5, .ref z6, .ref z7, .int loz, .int miz, .int sdz])), aI G z1 9 htz, aI G z2 8 wmz, aI G z3 8 sez, aI G z4 8 cdz, aI G z5 8 slz, aI G z6 8 odz, aI G z7 72 owz]) (w' := fun (u : (Nat → Int32) × (Nat → Int32) × (Nat → Int32) × (Nat → Int32) × (Nat → Int32) × (Nat → Int32) × (Nat → Int32) × (Int32) × (Int32) × (Int32)) => [(h0, .inr (7, [.ref e0, .ref t, .ref k, .ref n, .ref j, .ref i0, .int kp, .ref b0, .ref s0, .ref q, .ref g])), (n, .inr (1, [.ref n1, .ref n2, .ref n3, .ref n4, .ref n5, .ref n6, .ref n7, .int lo, .int mi, .int sd])), aI G n1 9 ht, aI G n2 8 wm, aI G n3 8 se, aI G n4 8 cd, aI G n5 8 sl, aI G n6 8 od, aI G n7 72 ow, aN G i0 2 (fun k => if k = 0 then some y else some z), (y, .inr (1, [.ref y1, .ref y2, .ref y3, .ref y4, .ref y5, .ref y6, .ref y7, .int u.2.2.2.2.2.2.2.1, .int u.2.2.2.2.2.2.2.2.1, .int u.2.2.2.2.2.2.2.2.2])), aI G y1 9 u.1, aI G y2 8 u.2.1, aI G y3 8 u.2.2.1, aI G y4 8 u.2.2.2.1, aI G y5 8 u.2.2.2.2.1, aI G y6 8 u.2.2.2.2.2.1, aI G y7 72 u.2.2.2.2.2.2.1, (z, .inr (1, [.ref z1, .ref z2, .ref z3, .ref z4, .ref z5, .ref z6, .ref z7, .int loz, .int miz, .int sdz])), aI G z1 9 htz, aI G z2 8 wmz, aI G z3 8 sez, aI G z4 8 cdz, aI G z5 8 slz, aI G z6 8 odz, aI G z7 72 owz]) (x_runV (As := [.ref n]) (rest := []) (n := 1) (C := RX1) (ci := 1) ⟨hx, hb, hml, hown, hts⟩ (k_X1_copyFrom l G y y1 y2 y3 y4 y5 y6 y7 n n1 n2 n3 n4 n5 n6 n7 _ hty wmy sey cdy sly ody owy loy miy sdy ht wm se cd sl od ow lo mi sd gNs_3 gNp_4 gv_5 hp) gX7_keep_X1_copyFrom rfl (by decide +kernel) ⟨Nat.le_trans (Nat.le_of_ble_eq_true rfl) hRf, Nat.le_trans (Nat.le_of_ble_eq_true rfl) hRl⟩ hKK hSS hS hA hP hD [10, 11, 12, 13, 14, 15, 16, 17, 1, 2, 3, 4, 5, 6, 7, 8] (by decide) rfl rfl rfl 10 rfl rfl hl.1 rfl (Nat.le_of_ble_eq_true rfl) dX7_keep_22) hP hD hS hA [10, 11, 12, 13, 14, 15, 16, 17, 1, 2, 3, 4, 5, 6, 7, 8] [0, 9, 18, 19, 20, 21, 22, 23, 24, 25] [0, 18, 19, 20, 21, 22, 23, 24, 25, 1, 10, 11, 12, 13, 14, 15, 16, 17, 2, 3, 4, 5, 6, 7, 8, 9] rfl rfl (by decide) (by decide) (by decide) (fun _ => rfl) (fun  u H locs hw hP hD hS => ?_)
      obtain ⟨ht2_7, wm2_8, se2_9, cd2_10, sl2_11, od2_12, ow2_13, lo2_14, mi2_15, sd2_16⟩ := u
      have hP : va_P G.1 vwCl [(h0, .inr (7, [.ref e0, .ref t, .ref k, .ref n, .ref j, .ref i0, .int kp, .ref b0, .ref s0, .ref q, .ref g])), (n, .inr (1, [.ref n1, .ref n2, .ref n3, .ref n4, .ref n5, .ref n6, .ref n7, .int lo, .int mi, .int sd])), aI G n1 9 ht, aI G n2 8 wm, aI G n3 8 se, aI G n4 8 cd, aI G n5 8 sl, aI G n6 8 od, aI G n7 72 ow, aN G i0 2 (fun k => if k = 0 then some y else some z), (y, .inr (1, [.ref y1, .ref y2, .ref y3, .ref y4, .ref y5, .ref y6, .ref y7, .int lo2_14, .int mi2_15, .int sd2_16])), aI G y1 9 ht2_7, aI G y2 8 wm2_8, aI G y3 8 se2_9, aI G y4 8 cd2_10, aI G y5 8 sl2_11, aI G y6 8 od2_12, aI G y7 72 ow2_13, (z, .inr (1, [.ref z1, .ref z2, .ref z3, .ref z4, .ref z5, .ref z6, .ref z7, .int loz, .int miz, .int sdz])), aI G z1 9 htz, aI G z2 8 wmz, aI G z3 8 sez, aI G z4 8 cdz, aI G z5 8 slz, aI G z6 8 odz, aI G z7 72 owz] H := hP
      have hD : va_D A [(h0, .inr (7, [.ref e0, .ref t, .ref k, .ref n, .ref j, .ref i0, .int kp, .ref b0, .ref s0, .ref q, .ref g])), (n, .inr (1, [.ref n1, .ref n2, .ref n3, .ref n4, .ref n5, .ref n6, .ref n7, .int lo, .int mi, .int sd])), aI G n1 9 ht, aI G n2 8 wm, aI G n3 8 se, aI G n4 8 cd, aI G n5 8 sl, aI G n6 8 od, aI G n7 72 ow, aN G i0 2 (fun k => if k = 0 then some y else some z), (y, .inr (1, [.ref y1, .ref y2, .ref y3, .ref y4, .ref y5, .ref y6, .ref y7, .int lo2_14, .int mi2_15, .int sd2_16])), aI G y1 9 ht2_7, aI G y2 8 wm2_8, aI G y3 8 se2_9, aI G y4 8 cd2_10, aI G y5 8 sl2_11, aI G y6 8 od2_12, aI G y7 72 ow2_13, (z, .inr (1, [.ref z1, .ref z2, .ref z3, .ref z4, .ref z5, .ref z6, .ref z7, .int loz, .int miz, .int sdz])), aI G z1 9 htz, aI G z2 8 wmz, aI G z3 8 sez, aI G z4 8 cdz, aI G z5 8 slz, aI G z6 8 odz, aI G z7 72 owz] := hD
      have hv := hv ht2_7 wm2_8 se2_9 cd2_10 sl2_11 od2_12 ow2_13 lo2_14 mi2_15 sd2_16 hw
      refine lv_aload_n hx hb dX7_keep_25 rfl (lv_at hl 0 rfl) ?_
      refine lv_dup hx hb dX7_keep_26 rfl ?_
      refine va_get (D := G.1) (ci := 7) (v := .int kp) (C := RX7) (T := TX7) (N := 11) hx hb hts hinX7 hown hKK.1 hP 0 rfl rfl 6 (by decide) kl97 (fun _ h9 => h9) rfl dX7_keep_27 ?_
      refine lv_iconst (v := 1) hx hb dX7_keep_30 (by decide) ?_
      refine lv_iload_n hx hb dX7_keep_31 rfl (lv_at hl 1 rfl) ?_
      refine lv_ishl hx hb dX7_keep_32 ?_
      refine lv_ior hx hb dX7_keep_33 ?_
      refine va_put (D := G.1) (ci := 7) (v := .int (kp ||| ((1 : Int32) <<< (x &&& 31)))) (ty := .int) (C := RX7) (T := TX7) (N := 11) hx hb hts hinX7 tyX7 tyX7_ok nmX7 hown hKK.1 hP hD hS 0 rfl rfl 6 (by decide) kl97 (fun _ h9 => h9) rfl (by decide +kernel) rfl rfl (Nat.le_of_ble_eq_true rfl) dX7_keep_34 (fun H locs hP hD hS => ?_)
      have hP : va_P G.1 vwCl [(h0, .inr (7, [.ref e0, .ref t, .ref k, .ref n, .ref j, .ref i0, .int (kp ||| ((1 : Int32) <<< (x &&& 31))), .ref b0, .ref s0, .ref q, .ref g])), (n, .inr (1, [.ref n1, .ref n2, .ref n3, .ref n4, .ref n5, .ref n6, .ref n7, .int lo, .int mi, .int sd])), aI G n1 9 ht, aI G n2 8 wm, aI G n3 8 se, aI G n4 8 cd, aI G n5 8 sl, aI G n6 8 od, aI G n7 72 ow, aN G i0 2 (fun k => if k = 0 then some y else some z), (y, .inr (1, [.ref y1, .ref y2, .ref y3, .ref y4, .ref y5, .ref y6, .ref y7, .int lo2_14, .int mi2_15, .int sd2_16])), aI G y1 9 ht2_7, aI G y2 8 wm2_8, aI G y3 8 se2_9, aI G y4 8 cd2_10, aI G y5 8 sl2_11, aI G y6 8 od2_12, aI G y7 72 ow2_13, (z, .inr (1, [.ref z1, .ref z2, .ref z3, .ref z4, .ref z5, .ref z6, .ref z7, .int loz, .int miz, .int sdz])), aI G z1 9 htz, aI G z2 8 wmz, aI G z3 8 sez, aI G z4 8 cdz, aI G z5 8 slz, aI G z6 8 odz, aI G z7 72 owz] H := hP
      have hD : va_D A [(h0, .inr (7, [.ref e0, .ref t, .ref k, .ref n, .ref j, .ref i0, .int (kp ||| ((1 : Int32) <<< (x &&& 31))), .ref b0, .ref s0, .ref q, .ref g])), (n, .inr (1, [.ref n1, .ref n2, .ref n3, .ref n4, .ref n5, .ref n6, .ref n7, .int lo, .int mi, .int sd])), aI G n1 9 ht, aI G n2 8 wm, aI G n3 8 se, aI G n4 8 cd, aI G n5 8 sl, aI G n6 8 od, aI G n7 72 ow, aN G i0 2 (fun k => if k = 0 then some y else some z), (y, .inr (1, [.ref y1, .ref y2, .ref y3, .ref y4, .ref y5, .ref y6, .ref y7, .int lo2_14, .int mi2_15, .int sd2_16])), aI G y1 9 ht2_7, aI G y2 8 wm2_8, aI G y3 8 se2_9, aI G y4 8 cd2_10, aI G y5 8 sl2_11, aI G y6 8 od2_12, aI G y7 72 ow2_13, (z, .inr (1, [.ref z1, .ref z2, .ref z3, .ref z4, .ref z5, .ref z6, .ref z7, .int loz, .int miz, .int sdz])), aI G z1 9 htz, aI G z2 8 wmz, aI G z3 8 sez, aI G z4 8 cdz, aI G z5 8 slz, aI G z6 8 odz, aI G z7 72 owz] := hD
      refine lv_iconst (v := 1) hx hb dX7_keep_37 (by decide) ?_
      exact x_iret (v := 1) (ht2_7, wm2_8, se2_9, cd2_10, sl2_11, od2_12, ow2_13, lo2_14, mi2_15, sd2_16, htz, wmz, sez, cdz, slz, odz, owz, loz, miz, sdz, (kp ||| ((1 : Int32) <<< (x &&& 31)))) hQ hx hb hr hlocks hS dX7_keep_38 hv hP hD
    · have hv := hv.2 hk_32
      refine va_aldq hx hb hKK.1 hP 9 4 rfl rfl (by rw [hk_32]; unfold vp_in; decide) dX7_keep_17 ?_
      refine W.eq (g2 := F0 m 18 ls [.ref z]) (by rw [hk_32]; rfl) ?_
      refine lv_aload_n hx hb dX7_keep_18 rfl (lv_at hl 0 rfl) ?_
      refine va_get (D := G.1) (ci := 7) (v := .ref n) (C := RX7) (T := TX7) (N := 11) hx hb hts hinX7 hown hKK.1 hP 0 rfl rfl 3 (by decide) kl29 (fun _ h9 => h9) rfl dX7_keep_19 ?_
      obtain ⟨gNs_18, gNp_19, gv_20, hv⟩ := hv
      obtain ⟨hp, hv⟩ := hv
      refine x_callv (wr := [(h0, .inr (7, [.ref e0, .ref t, .ref k, .ref n, .ref j, .ref i0, .int kp, .ref b0, .ref s0, .ref q, .ref g])), aN G i0 2 (fun k => if k = 0 then some y else some z), (y, .inr (1, [.ref y1, .ref y2, .ref y3, .ref y4, .ref y5, .ref y6, .ref y7, .int loy, .int miy, .int sdy])), aI G y1 9 hty, aI G y2 8 wmy, aI G y3 8 sey, aI G y4 8 cdy, aI G y5 8 sly, aI G y6 8 ody, aI G y7 72 owy]) (w' := fun (u : (Nat → Int32) × (Nat → Int32) × (Nat → Int32) × (Nat → Int32) × (Nat → Int32) × (Nat → Int32) × (Nat → Int32) × (Int32) × (Int32) × (Int32)) => [(h0, .inr (7, [.ref e0, .ref t, .ref k, .ref n, .ref j, .ref i0, .int kp, .ref b0, .ref s0, .ref q, .ref g])), (n, .inr (1, [.ref n1, .ref n2, .ref n3, .ref n4, .ref n5, .ref n6, .ref n7, .int lo, .int mi, .int sd])), aI G n1 9 ht, aI G n2 8 wm, aI G n3 8 se, aI G n4 8 cd, aI G n5 8 sl, aI G n6 8 od, aI G n7 72 ow, aN G i0 2 (fun k => if k = 0 then some y else some z), (y, .inr (1, [.ref y1, .ref y2, .ref y3, .ref y4, .ref y5, .ref y6, .ref y7, .int loy, .int miy, .int sdy])), aI G y1 9 hty, aI G y2 8 wmy, aI G y3 8 sey, aI G y4 8 cdy, aI G y5 8 sly, aI G y6 8 ody, aI G y7 72 owy, (z, .inr (1, [.ref z1, .ref z2, .ref z3, .ref z4, .ref z5, .ref z6, .ref z7, .int u.2.2.2.2.2.2.2.1, .int u.2.2.2.2.2.2.2.2.1, .int u.2.2.2.2.2.2.2.2.2])), aI G z1 9 u.1, aI G z2 8 u.2.1, aI G z3 8 u.2.2.1, aI G z4 8 u.2.2.2.1, aI G z5 8 u.2.2.2.2.1, aI G z6 8 u.2.2.2.2.2.1, aI G z7 72 u.2.2.2.2.2.2.1]) (x_runV (As := [.ref n]) (rest := []) (n := 1) (C := RX1) (ci := 1) ⟨hx, hb, hml, hown, hts⟩ (k_X1_copyFrom l G z z1 z2 z3 z4 z5 z6 z7 n n1 n2 n3 n4 n5 n6 n7 _ htz wmz sez cdz slz odz owz loz miz sdz ht wm se cd sl od ow lo mi sd gNs_18 gNp_19 gv_20 hp) gX7_keep_X1_copyFrom rfl (by decide +kernel) ⟨Nat.le_trans (Nat.le_of_ble_eq_true rfl) hRf, Nat.le_trans (Nat.le_of_ble_eq_true rfl) hRl⟩ hKK hSS hS hA hP hD [18, 19, 20, 21, 22, 23, 24, 25, 1, 2, 3, 4, 5, 6, 7, 8] (by decide) rfl rfl rfl 18 rfl rfl hl.1 rfl (Nat.le_of_ble_eq_true rfl) dX7_keep_22) hP hD hS hA [18, 19, 20, 21, 22, 23, 24, 25, 1, 2, 3, 4, 5, 6, 7, 8] [0, 9, 10, 11, 12, 13, 14, 15, 16, 17] [0, 18, 19, 20, 21, 22, 23, 24, 25, 1, 2, 3, 4, 5, 6, 7, 8, 9, 10, 11, 12, 13, 14, 15, 16, 17] rfl rfl (by decide) (by decide) (by decide) (fun _ => rfl) (fun  u H locs hw hP hD hS => ?_)
      obtain ⟨ht2_22, wm2_23, se2_24, cd2_25, sl2_26, od2_27, ow2_28, lo2_29, mi2_30, sd2_31⟩ := u
      have hP : va_P G.1 vwCl [(h0, .inr (7, [.ref e0, .ref t, .ref k, .ref n, .ref j, .ref i0, .int kp, .ref b0, .ref s0, .ref q, .ref g])), (n, .inr (1, [.ref n1, .ref n2, .ref n3, .ref n4, .ref n5, .ref n6, .ref n7, .int lo, .int mi, .int sd])), aI G n1 9 ht, aI G n2 8 wm, aI G n3 8 se, aI G n4 8 cd, aI G n5 8 sl, aI G n6 8 od, aI G n7 72 ow, aN G i0 2 (fun k => if k = 0 then some y else some z), (y, .inr (1, [.ref y1, .ref y2, .ref y3, .ref y4, .ref y5, .ref y6, .ref y7, .int loy, .int miy, .int sdy])), aI G y1 9 hty, aI G y2 8 wmy, aI G y3 8 sey, aI G y4 8 cdy, aI G y5 8 sly, aI G y6 8 ody, aI G y7 72 owy, (z, .inr (1, [.ref z1, .ref z2, .ref z3, .ref z4, .ref z5, .ref z6, .ref z7, .int lo2_29, .int mi2_30, .int sd2_31])), aI G z1 9 ht2_22, aI G z2 8 wm2_23, aI G z3 8 se2_24, aI G z4 8 cd2_25, aI G z5 8 sl2_26, aI G z6 8 od2_27, aI G z7 72 ow2_28] H := hP
      have hD : va_D A [(h0, .inr (7, [.ref e0, .ref t, .ref k, .ref n, .ref j, .ref i0, .int kp, .ref b0, .ref s0, .ref q, .ref g])), (n, .inr (1, [.ref n1, .ref n2, .ref n3, .ref n4, .ref n5, .ref n6, .ref n7, .int lo, .int mi, .int sd])), aI G n1 9 ht, aI G n2 8 wm, aI G n3 8 se, aI G n4 8 cd, aI G n5 8 sl, aI G n6 8 od, aI G n7 72 ow, aN G i0 2 (fun k => if k = 0 then some y else some z), (y, .inr (1, [.ref y1, .ref y2, .ref y3, .ref y4, .ref y5, .ref y6, .ref y7, .int loy, .int miy, .int sdy])), aI G y1 9 hty, aI G y2 8 wmy, aI G y3 8 sey, aI G y4 8 cdy, aI G y5 8 sly, aI G y6 8 ody, aI G y7 72 owy, (z, .inr (1, [.ref z1, .ref z2, .ref z3, .ref z4, .ref z5, .ref z6, .ref z7, .int lo2_29, .int mi2_30, .int sd2_31])), aI G z1 9 ht2_22, aI G z2 8 wm2_23, aI G z3 8 se2_24, aI G z4 8 cd2_25, aI G z5 8 sl2_26, aI G z6 8 od2_27, aI G z7 72 ow2_28] := hD
      have hv := hv ht2_22 wm2_23 se2_24 cd2_25 sl2_26 od2_27 ow2_28 lo2_29 mi2_30 sd2_31 hw
      refine lv_aload_n hx hb dX7_keep_25 rfl (lv_at hl 0 rfl) ?_
      refine lv_dup hx hb dX7_keep_26 rfl ?_
      refine va_get (D := G.1) (ci := 7) (v := .int kp) (C := RX7) (T := TX7) (N := 11) hx hb hts hinX7 hown hKK.1 hP 0 rfl rfl 6 (by decide) kl97 (fun _ h9 => h9) rfl dX7_keep_27 ?_
      refine lv_iconst (v := 1) hx hb dX7_keep_30 (by decide) ?_
      refine lv_iload_n hx hb dX7_keep_31 rfl (lv_at hl 1 rfl) ?_
      refine lv_ishl hx hb dX7_keep_32 ?_
      refine lv_ior hx hb dX7_keep_33 ?_
      refine va_put (D := G.1) (ci := 7) (v := .int (kp ||| ((1 : Int32) <<< (x &&& 31)))) (ty := .int) (C := RX7) (T := TX7) (N := 11) hx hb hts hinX7 tyX7 tyX7_ok nmX7 hown hKK.1 hP hD hS 0 rfl rfl 6 (by decide) kl97 (fun _ h9 => h9) rfl (by decide +kernel) rfl rfl (Nat.le_of_ble_eq_true rfl) dX7_keep_34 (fun H locs hP hD hS => ?_)
      have hP : va_P G.1 vwCl [(h0, .inr (7, [.ref e0, .ref t, .ref k, .ref n, .ref j, .ref i0, .int (kp ||| ((1 : Int32) <<< (x &&& 31))), .ref b0, .ref s0, .ref q, .ref g])), (n, .inr (1, [.ref n1, .ref n2, .ref n3, .ref n4, .ref n5, .ref n6, .ref n7, .int lo, .int mi, .int sd])), aI G n1 9 ht, aI G n2 8 wm, aI G n3 8 se, aI G n4 8 cd, aI G n5 8 sl, aI G n6 8 od, aI G n7 72 ow, aN G i0 2 (fun k => if k = 0 then some y else some z), (y, .inr (1, [.ref y1, .ref y2, .ref y3, .ref y4, .ref y5, .ref y6, .ref y7, .int loy, .int miy, .int sdy])), aI G y1 9 hty, aI G y2 8 wmy, aI G y3 8 sey, aI G y4 8 cdy, aI G y5 8 sly, aI G y6 8 ody, aI G y7 72 owy, (z, .inr (1, [.ref z1, .ref z2, .ref z3, .ref z4, .ref z5, .ref z6, .ref z7, .int lo2_29, .int mi2_30, .int sd2_31])), aI G z1 9 ht2_22, aI G z2 8 wm2_23, aI G z3 8 se2_24, aI G z4 8 cd2_25, aI G z5 8 sl2_26, aI G z6 8 od2_27, aI G z7 72 ow2_28] H := hP
      have hD : va_D A [(h0, .inr (7, [.ref e0, .ref t, .ref k, .ref n, .ref j, .ref i0, .int (kp ||| ((1 : Int32) <<< (x &&& 31))), .ref b0, .ref s0, .ref q, .ref g])), (n, .inr (1, [.ref n1, .ref n2, .ref n3, .ref n4, .ref n5, .ref n6, .ref n7, .int lo, .int mi, .int sd])), aI G n1 9 ht, aI G n2 8 wm, aI G n3 8 se, aI G n4 8 cd, aI G n5 8 sl, aI G n6 8 od, aI G n7 72 ow, aN G i0 2 (fun k => if k = 0 then some y else some z), (y, .inr (1, [.ref y1, .ref y2, .ref y3, .ref y4, .ref y5, .ref y6, .ref y7, .int loy, .int miy, .int sdy])), aI G y1 9 hty, aI G y2 8 wmy, aI G y3 8 sey, aI G y4 8 cdy, aI G y5 8 sly, aI G y6 8 ody, aI G y7 72 owy, (z, .inr (1, [.ref z1, .ref z2, .ref z3, .ref z4, .ref z5, .ref z6, .ref z7, .int lo2_29, .int mi2_30, .int sd2_31])), aI G z1 9 ht2_22, aI G z2 8 wm2_23, aI G z3 8 se2_24, aI G z4 8 cd2_25, aI G z5 8 sl2_26, aI G z6 8 od2_27, aI G z7 72 ow2_28] := hD
      refine lv_iconst (v := 1) hx hb dX7_keep_37 (by decide) ?_
      exact x_iret (v := 1) (hty, wmy, sey, cdy, sly, ody, owy, loy, miy, sdy, ht2_22, wm2_23, se2_24, cd2_25, sl2_26, od2_27, ow2_28, lo2_29, mi2_30, sd2_31, (kp ||| ((1 : Int32) <<< (x &&& 31)))) hQ hx hb hr hlocks hS dX7_keep_38 hv hP hD
  · have hv := hv.2 (tv_eq.mp hc_2)
    refine lv_ldc (v := (-1000000001)) hx hb hown kl143 dX7_keep_9 ?_
    exact x_iret (v := (-1000000001)) (hty, wmy, sey, cdy, sly, ody, owy, loy, miy, sdy, htz, wmz, sez, cdz, slz, odz, owz, loz, miz, sdz, kp) hQ hx hb hr hlocks hS dX7_keep_11 hv hP hD
theorem v_X7_keep (l : Launch) (G : Gt) (h0 n n1 n2 n3 n4 n5 n6 n7 i0 y y1 y2 y3 y4 y5 y6 y7 z z1 z2 z3 z4 z5 z6 z7 : Nat) (sz : Nat) (e0 : Nat) (t : Nat) (k : Nat) (j : Nat) (b0 : Nat) (s0 : Nat) (q : Nat) (g : Nat) (kp : Int32) (ht : Nat → Int32) (wm : Nat → Int32) (se : Nat → Int32) (cd : Nat → Int32) (sl : Nat → Int32) (od : Nat → Int32) (ow : Nat → Int32) (lo : Int32) (mi : Int32) (sd : Int32) (hty : Nat → Int32) (wmy : Nat → Int32) (sey : Nat → Int32) (cdy : Nat → Int32) (sly : Nat → Int32) (ody : Nat → Int32) (owy : Nat → Int32) (loy : Int32) (miy : Int32) (sdy : Int32) (htz : Nat → Int32) (wmz : Nat → Int32) (sez : Nat → Int32) (cdz : Nat → Int32) (slz : Nat → Int32) (odz : Nat → Int32) (owz : Nat → Int32) (loz : Int32) (miz : Int32) (sdz : Int32) (x : Int32) (Ns : Nat) (Np : Nat) (v : Nat → Int) (hp : CN Ns Np v ht wm se cd sl od ow lo mi sd ∧ Ns ≤ 9 ∧ Np ≤ 8) : (¬ x < 0 ∧ ¬ 1 < x → (x = 0 ∨ x = 1) ∧ ((x = 0 → ∃ (gNs_3 : Nat) (gNp_4 : Nat) (gv_5 : Nat → Int), ((CN gNs_3 gNp_4 gv_5 ht wm se cd sl od ow lo mi sd ∧ gNs_3 ≤ 9 ∧ gNp_4 ≤ 8) ∧ (∀ (ht2_7 : Nat → Int32) (wm2_8 : Nat → Int32) (se2_9 : Nat → Int32) (cd2_10 : Nat → Int32) (sl2_11 : Nat → Int32) (od2_12 : Nat → Int32) (ow2_13 : Nat → Int32) (lo2_14 : Int32) (mi2_15 : Int32) (sd2_16 : Int32), (CN gNs_3 gNp_4 gv_5 ht2_7 wm2_8 se2_9 cd2_10 sl2_11 od2_12 ow2_13 lo2_14 mi2_15 sd2_16) → (((¬ (0 ≤ x.toInt ∧ x.toInt ≤ 1) ∧ (1 : Int32) = -1000000001 ∧ (kp ||| ((1 : Int32) <<< (x &&& 31))) = kp ∧ ht2_7 = hty ∧ wm2_8 = wmy ∧ se2_9 = sey ∧ cd2_10 = cdy ∧ sl2_11 = sly ∧ od2_12 = ody ∧ ow2_13 = owy ∧ lo2_14 = loy ∧ mi2_15 = miy ∧ sd2_16 = sdy ∧ htz = htz ∧ wmz = wmz ∧ sez = sez ∧ cdz = cdz ∧ slz = slz ∧ odz = odz ∧ owz = owz ∧ loz = loz ∧ miz = miz ∧ sdz = sdz) ∨ (x.toInt = 0 ∧ (1 : Int32) = 1 ∧ (kp ||| ((1 : Int32) <<< (x &&& 31))) = (kp ||| 1) ∧ CN Ns Np v ht2_7 wm2_8 se2_9 cd2_10 sl2_11 od2_12 ow2_13 lo2_14 mi2_15 sd2_16 ∧ htz = htz ∧ wmz = wmz ∧ sez = sez ∧ cdz = cdz ∧ slz = slz ∧ odz = odz ∧ owz = owz ∧ loz = loz ∧ miz = miz ∧ sdz = sdz) ∨ (x.toInt = 1 ∧ (1 : Int32) = 1 ∧ (kp ||| ((1 : Int32) <<< (x &&& 31))) = (kp ||| 2) ∧ ht2_7 = hty ∧ wm2_8 = wmy ∧ se2_9 = sey ∧ cd2_10 = cdy ∧ sl2_11 = sly ∧ od2_12 = ody ∧ ow2_13 = owy ∧ lo2_14 = loy ∧ mi2_15 = miy ∧ sd2_16 = sdy ∧ CN Ns Np v htz wmz sez cdz slz odz owz loz miz sdz)))))) ∧ (x = 1 → ∃ (gNs_18 : Nat) (gNp_19 : Nat) (gv_20 : Nat → Int), ((CN gNs_18 gNp_19 gv_20 ht wm se cd sl od ow lo mi sd ∧ gNs_18 ≤ 9 ∧ gNp_19 ≤ 8) ∧ (∀ (ht2_22 : Nat → Int32) (wm2_23 : Nat → Int32) (se2_24 : Nat → Int32) (cd2_25 : Nat → Int32) (sl2_26 : Nat → Int32) (od2_27 : Nat → Int32) (ow2_28 : Nat → Int32) (lo2_29 : Int32) (mi2_30 : Int32) (sd2_31 : Int32), (CN gNs_18 gNp_19 gv_20 ht2_22 wm2_23 se2_24 cd2_25 sl2_26 od2_27 ow2_28 lo2_29 mi2_30 sd2_31) → (((¬ (0 ≤ x.toInt ∧ x.toInt ≤ 1) ∧ (1 : Int32) = -1000000001 ∧ (kp ||| ((1 : Int32) <<< (x &&& 31))) = kp ∧ hty = hty ∧ wmy = wmy ∧ sey = sey ∧ cdy = cdy ∧ sly = sly ∧ ody = ody ∧ owy = owy ∧ loy = loy ∧ miy = miy ∧ sdy = sdy ∧ ht2_22 = htz ∧ wm2_23 = wmz ∧ se2_24 = sez ∧ cd2_25 = cdz ∧ sl2_26 = slz ∧ od2_27 = odz ∧ ow2_28 = owz ∧ lo2_29 = loz ∧ mi2_30 = miz ∧ sd2_31 = sdz) ∨ (x.toInt = 0 ∧ (1 : Int32) = 1 ∧ (kp ||| ((1 : Int32) <<< (x &&& 31))) = (kp ||| 1) ∧ CN Ns Np v hty wmy sey cdy sly ody owy loy miy sdy ∧ ht2_22 = htz ∧ wm2_23 = wmz ∧ se2_24 = sez ∧ cd2_25 = cdz ∧ sl2_26 = slz ∧ od2_27 = odz ∧ ow2_28 = owz ∧ lo2_29 = loz ∧ mi2_30 = miz ∧ sd2_31 = sdz) ∨ (x.toInt = 1 ∧ (1 : Int32) = 1 ∧ (kp ||| ((1 : Int32) <<< (x &&& 31))) = (kp ||| 2) ∧ hty = hty ∧ wmy = wmy ∧ sey = sey ∧ cdy = cdy ∧ sly = sly ∧ ody = ody ∧ owy = owy ∧ loy = loy ∧ miy = miy ∧ sdy = sdy ∧ CN Ns Np v ht2_22 wm2_23 se2_24 cd2_25 sl2_26 od2_27 ow2_28 lo2_29 mi2_30 sd2_31)))))))) ∧ (¬ (¬ x < 0 ∧ ¬ 1 < x) → ((¬ (0 ≤ x.toInt ∧ x.toInt ≤ 1) ∧ ((-1000000001) : Int32) = -1000000001 ∧ kp = kp ∧ hty = hty ∧ wmy = wmy ∧ sey = sey ∧ cdy = cdy ∧ sly = sly ∧ ody = ody ∧ owy = owy ∧ loy = loy ∧ miy = miy ∧ sdy = sdy ∧ htz = htz ∧ wmz = wmz ∧ sez = sez ∧ cdz = cdz ∧ slz = slz ∧ odz = odz ∧ owz = owz ∧ loz = loz ∧ miz = miz ∧ sdz = sdz) ∨ (x.toInt = 0 ∧ ((-1000000001) : Int32) = 1 ∧ kp = (kp ||| 1) ∧ CN Ns Np v hty wmy sey cdy sly ody owy loy miy sdy ∧ htz = htz ∧ wmz = wmz ∧ sez = sez ∧ cdz = cdz ∧ slz = slz ∧ odz = odz ∧ owz = owz ∧ loz = loz ∧ miz = miz ∧ sdz = sdz) ∨ (x.toInt = 1 ∧ ((-1000000001) : Int32) = 1 ∧ kp = (kp ||| 2) ∧ hty = hty ∧ wmy = wmy ∧ sey = sey ∧ cdy = cdy ∧ sly = sly ∧ ody = ody ∧ owy = owy ∧ loy = loy ∧ miy = miy ∧ sdy = sdy ∧ CN Ns Np v htz wmz sez cdz slz odz owz loz miz sdz))) := by
  obtain ⟨hN, h9, h8⟩ := hp
  have hc : (¬ x < 0 ∧ ¬ 1 < x) ↔ (0 ≤ x.toInt ∧ x.toInt ≤ 1) := wi_iff rfl rfl
  refine ⟨fun h0 => ⟨?_, fun h1 => ?_, fun h1 => ?_⟩, fun h => Or.inl ⟨fun q => h (hc.mpr q), rfl, rfl, rfl, rfl, rfl, rfl, rfl, rfl, rfl, rfl, rfl, rfl, rfl, rfl, rfl, rfl, rfl, rfl, rfl, rfl, rfl, rfl⟩⟩
  · have := hc.mp h0
    rw [show x = 0 ↔ x.toInt = 0 from i_eq rfl rfl, show x = 1 ↔ x.toInt = 1 from i_eq rfl rfl]
    omega
  · subst h1
    exact ⟨Ns, Np, v, ⟨hN, h9, h8⟩, fun b1 b2 b3 b4 b5 b6 b7 b8 b9 b10 hN0 => Or.inr (Or.inl ⟨rfl, rfl, rfl, hN0, rfl, rfl, rfl, rfl, rfl, rfl, rfl, rfl, rfl, rfl⟩)⟩
  · subst h1
    exact ⟨Ns, Np, v, ⟨hN, h9, h8⟩, fun b1 b2 b3 b4 b5 b6 b7 b8 b9 b10 hN0 => Or.inr (Or.inr ⟨rfl, rfl, rfl, rfl, rfl, rfl, rfl, rfl, rfl, rfl, rfl, rfl, rfl, hN0⟩)⟩
theorem k_X7_keep (l : Launch) (G : Gt) (h0 n n1 n2 n3 n4 n5 n6 n7 i0 y y1 y2 y3 y4 y5 y6 y7 z z1 z2 z3 z4 z5 z6 z7 : Nat) (sz : Nat) (e0 : Nat) (t : Nat) (k : Nat) (j : Nat) (b0 : Nat) (s0 : Nat) (q : Nat) (g : Nat) (kp : Int32) (ht : Nat → Int32) (wm : Nat → Int32) (se : Nat → Int32) (cd : Nat → Int32) (sl : Nat → Int32) (od : Nat → Int32) (ow : Nat → Int32) (lo : Int32) (mi : Int32) (sd : Int32) (hty : Nat → Int32) (wmy : Nat → Int32) (sey : Nat → Int32) (cdy : Nat → Int32) (sly : Nat → Int32) (ody : Nat → Int32) (owy : Nat → Int32) (loy : Int32) (miy : Int32) (sdy : Int32) (htz : Nat → Int32) (wmz : Nat → Int32) (sez : Nat → Int32) (cdz : Nat → Int32) (slz : Nat → Int32) (odz : Nat → Int32) (owz : Nat → Int32) (loz : Int32) (miz : Int32) (sdz : Int32) (x : Int32) (Ns : Nat) (Np : Nat) (v : Nat → Int) (hp : CN Ns Np v ht wm se cd sl od ow lo mi sd ∧ Ns ≤ 9 ∧ Np ≤ 8) : MetI l yX7_keep wsX7_keep 2 51 G [.ref h0, .int x] [(h0, .inr (7, [.ref e0, .ref t, .ref k, .ref n, .ref j, .ref i0, .int kp, .ref b0, .ref s0, .ref q, .ref g])), (n, .inr (1, [.ref n1, .ref n2, .ref n3, .ref n4, .ref n5, .ref n6, .ref n7, .int lo, .int mi, .int sd])), aI G n1 9 ht, aI G n2 8 wm, aI G n3 8 se, aI G n4 8 cd, aI G n5 8 sl, aI G n6 8 od, aI G n7 72 ow, aN G i0 2 (fun k => if k = 0 then some y else some z), (y, .inr (1, [.ref y1, .ref y2, .ref y3, .ref y4, .ref y5, .ref y6, .ref y7, .int loy, .int miy, .int sdy])), aI G y1 9 hty, aI G y2 8 wmy, aI G y3 8 sey, aI G y4 8 cdy, aI G y5 8 sly, aI G y6 8 ody, aI G y7 72 owy, (z, .inr (1, [.ref z1, .ref z2, .ref z3, .ref z4, .ref z5, .ref z6, .ref z7, .int loz, .int miz, .int sdz])), aI G z1 9 htz, aI G z2 8 wmz, aI G z3 8 sez, aI G z4 8 cdz, aI G z5 8 slz, aI G z6 8 odz, aI G z7 72 owz] sz (fun (r : Int32) (u : (Nat → Int32) × (Nat → Int32) × (Nat → Int32) × (Nat → Int32) × (Nat → Int32) × (Nat → Int32) × (Nat → Int32) × (Int32) × (Int32) × (Int32) × (Nat → Int32) × (Nat → Int32) × (Nat → Int32) × (Nat → Int32) × (Nat → Int32) × (Nat → Int32) × (Nat → Int32) × (Int32) × (Int32) × (Int32) × (Int32)) => ((¬ (0 ≤ x.toInt ∧ x.toInt ≤ 1) ∧ r = -1000000001 ∧ u.2.2.2.2.2.2.2.2.2.2.2.2.2.2.2.2.2.2.2.2 = kp ∧ u.1 = hty ∧ u.2.1 = wmy ∧ u.2.2.1 = sey ∧ u.2.2.2.1 = cdy ∧ u.2.2.2.2.1 = sly ∧ u.2.2.2.2.2.1 = ody ∧ u.2.2.2.2.2.2.1 = owy ∧ u.2.2.2.2.2.2.2.1 = loy ∧ u.2.2.2.2.2.2.2.2.1 = miy ∧ u.2.2.2.2.2.2.2.2.2.1 = sdy ∧ u.2.2.2.2.2.2.2.2.2.2.1 = htz ∧ u.2.2.2.2.2.2.2.2.2.2.2.1 = wmz ∧ u.2.2.2.2.2.2.2.2.2.2.2.2.1 = sez ∧ u.2.2.2.2.2.2.2.2.2.2.2.2.2.1 = cdz ∧ u.2.2.2.2.2.2.2.2.2.2.2.2.2.2.1 = slz ∧ u.2.2.2.2.2.2.2.2.2.2.2.2.2.2.2.1 = odz ∧ u.2.2.2.2.2.2.2.2.2.2.2.2.2.2.2.2.1 = owz ∧ u.2.2.2.2.2.2.2.2.2.2.2.2.2.2.2.2.2.1 = loz ∧ u.2.2.2.2.2.2.2.2.2.2.2.2.2.2.2.2.2.2.1 = miz ∧ u.2.2.2.2.2.2.2.2.2.2.2.2.2.2.2.2.2.2.2.1 = sdz) ∨ (x.toInt = 0 ∧ r = 1 ∧ u.2.2.2.2.2.2.2.2.2.2.2.2.2.2.2.2.2.2.2.2 = (kp ||| 1) ∧ CN Ns Np v u.1 u.2.1 u.2.2.1 u.2.2.2.1 u.2.2.2.2.1 u.2.2.2.2.2.1 u.2.2.2.2.2.2.1 u.2.2.2.2.2.2.2.1 u.2.2.2.2.2.2.2.2.1 u.2.2.2.2.2.2.2.2.2.1 ∧ u.2.2.2.2.2.2.2.2.2.2.1 = htz ∧ u.2.2.2.2.2.2.2.2.2.2.2.1 = wmz ∧ u.2.2.2.2.2.2.2.2.2.2.2.2.1 = sez ∧ u.2.2.2.2.2.2.2.2.2.2.2.2.2.1 = cdz ∧ u.2.2.2.2.2.2.2.2.2.2.2.2.2.2.1 = slz ∧ u.2.2.2.2.2.2.2.2.2.2.2.2.2.2.2.1 = odz ∧ u.2.2.2.2.2.2.2.2.2.2.2.2.2.2.2.2.1 = owz ∧ u.2.2.2.2.2.2.2.2.2.2.2.2.2.2.2.2.2.1 = loz ∧ u.2.2.2.2.2.2.2.2.2.2.2.2.2.2.2.2.2.2.1 = miz ∧ u.2.2.2.2.2.2.2.2.2.2.2.2.2.2.2.2.2.2.2.1 = sdz) ∨ (x.toInt = 1 ∧ r = 1 ∧ u.2.2.2.2.2.2.2.2.2.2.2.2.2.2.2.2.2.2.2.2 = (kp ||| 2) ∧ u.1 = hty ∧ u.2.1 = wmy ∧ u.2.2.1 = sey ∧ u.2.2.2.1 = cdy ∧ u.2.2.2.2.1 = sly ∧ u.2.2.2.2.2.1 = ody ∧ u.2.2.2.2.2.2.1 = owy ∧ u.2.2.2.2.2.2.2.1 = loy ∧ u.2.2.2.2.2.2.2.2.1 = miy ∧ u.2.2.2.2.2.2.2.2.2.1 = sdy ∧ CN Ns Np v u.2.2.2.2.2.2.2.2.2.2.1 u.2.2.2.2.2.2.2.2.2.2.2.1 u.2.2.2.2.2.2.2.2.2.2.2.2.1 u.2.2.2.2.2.2.2.2.2.2.2.2.2.1 u.2.2.2.2.2.2.2.2.2.2.2.2.2.2.1 u.2.2.2.2.2.2.2.2.2.2.2.2.2.2.2.1 u.2.2.2.2.2.2.2.2.2.2.2.2.2.2.2.2.1 u.2.2.2.2.2.2.2.2.2.2.2.2.2.2.2.2.2.1 u.2.2.2.2.2.2.2.2.2.2.2.2.2.2.2.2.2.2.1 u.2.2.2.2.2.2.2.2.2.2.2.2.2.2.2.2.2.2.2.1))) (fun (u : (Nat → Int32) × (Nat → Int32) × (Nat → Int32) × (Nat → Int32) × (Nat → Int32) × (Nat → Int32) × (Nat → Int32) × (Int32) × (Int32) × (Int32) × (Nat → Int32) × (Nat → Int32) × (Nat → Int32) × (Nat → Int32) × (Nat → Int32) × (Nat → Int32) × (Nat → Int32) × (Int32) × (Int32) × (Int32) × (Int32)) => [(h0, .inr (7, [.ref e0, .ref t, .ref k, .ref n, .ref j, .ref i0, .int u.2.2.2.2.2.2.2.2.2.2.2.2.2.2.2.2.2.2.2.2, .ref b0, .ref s0, .ref q, .ref g])), (n, .inr (1, [.ref n1, .ref n2, .ref n3, .ref n4, .ref n5, .ref n6, .ref n7, .int lo, .int mi, .int sd])), aI G n1 9 ht, aI G n2 8 wm, aI G n3 8 se, aI G n4 8 cd, aI G n5 8 sl, aI G n6 8 od, aI G n7 72 ow, aN G i0 2 (fun k => if k = 0 then some y else some z), (y, .inr (1, [.ref y1, .ref y2, .ref y3, .ref y4, .ref y5, .ref y6, .ref y7, .int u.2.2.2.2.2.2.2.1, .int u.2.2.2.2.2.2.2.2.1, .int u.2.2.2.2.2.2.2.2.2.1])), aI G y1 9 u.1, aI G y2 8 u.2.1, aI G y3 8 u.2.2.1, aI G y4 8 u.2.2.2.1, aI G y5 8 u.2.2.2.2.1, aI G y6 8 u.2.2.2.2.2.1, aI G y7 72 u.2.2.2.2.2.2.1, (z, .inr (1, [.ref z1, .ref z2, .ref z3, .ref z4, .ref z5, .ref z6, .ref z7, .int u.2.2.2.2.2.2.2.2.2.2.2.2.2.2.2.2.2.1, .int u.2.2.2.2.2.2.2.2.2.2.2.2.2.2.2.2.2.2.1, .int u.2.2.2.2.2.2.2.2.2.2.2.2.2.2.2.2.2.2.2.1])), aI G z1 9 u.2.2.2.2.2.2.2.2.2.2.1, aI G z2 8 u.2.2.2.2.2.2.2.2.2.2.2.1, aI G z3 8 u.2.2.2.2.2.2.2.2.2.2.2.2.1, aI G z4 8 u.2.2.2.2.2.2.2.2.2.2.2.2.2.1, aI G z5 8 u.2.2.2.2.2.2.2.2.2.2.2.2.2.2.1, aI G z6 8 u.2.2.2.2.2.2.2.2.2.2.2.2.2.2.2.1, aI G z7 72 u.2.2.2.2.2.2.2.2.2.2.2.2.2.2.2.2.1]) :=
  c_X7_keep l G h0 n n1 n2 n3 n4 n5 n6 n7 i0 y y1 y2 y3 y4 y5 y6 y7 z z1 z2 z3 z4 z5 z6 z7 sz e0 t k j b0 s0 q g kp ht wm se cd sl od ow lo mi sd hty wmy sey cdy sly ody owy loy miy sdy htz wmz sez cdz slz odz owz loz miz sdz x Ns Np v (v_X7_keep l G h0 n n1 n2 n3 n4 n5 n6 n7 i0 y y1 y2 y3 y4 y5 y6 y7 z z1 z2 z3 z4 z5 z6 z7 sz e0 t k j b0 s0 q g kp ht wm se cd sl od ow lo mi sd hty wmy sey cdy sly ody owy loy miy sdy htz wmz sez cdz slz odz owz loz miz sdz x Ns Np v hp)

set_option maxHeartbeats 4000000 in
set_option maxRecDepth 100000 in
theorem c_X7_goBack (l : Launch) (G : Gt) (h0 n n1 n2 n3 n4 n5 n6 n7 i0 y y1 y2 y3 y4 y5 y6 y7 z z1 z2 z3 z4 z5 z6 z7 : Nat) (sz : Nat) (e0 : Nat) (t : Nat) (k : Nat) (j : Nat) (b0 : Nat) (s0 : Nat) (q : Nat) (g : Nat) (kp : Int32) (ht : Nat → Int32) (wm : Nat → Int32) (se : Nat → Int32) (cd : Nat → Int32) (sl : Nat → Int32) (od : Nat → Int32) (ow : Nat → Int32) (lo : Int32) (mi : Int32) (sd : Int32) (hty : Nat → Int32) (wmy : Nat → Int32) (sey : Nat → Int32) (cdy : Nat → Int32) (sly : Nat → Int32) (ody : Nat → Int32) (owy : Nat → Int32) (loy : Int32) (miy : Int32) (sdy : Int32) (htz : Nat → Int32) (wmz : Nat → Int32) (sez : Nat → Int32) (cdz : Nat → Int32) (slz : Nat → Int32) (odz : Nat → Int32) (owz : Nat → Int32) (loz : Int32) (miz : Int32) (sdz : Int32) (x : Int32) (Ns : Nat) (Np : Nat) (v0 : Nat → Int) (v1 : Nat → Int) (hv : (¬ x < 0 ∧ ¬ 1 < x → (¬ ((kp >>> (x &&& 31)) &&& 1) = 0 → (x = 0 ∨ x = 1) ∧ ((x = 0 → ∃ (gNs_4 : Nat) (gNp_5 : Nat) (gv_6 : Nat → Int), ((CN gNs_4 gNp_5 gv_6 hty wmy sey cdy sly ody owy loy miy sdy ∧ gNs_4 ≤ 9 ∧ gNp_5 ≤ 8) ∧ (∀ (ht2_8 : Nat → Int32) (wm2_9 : Nat → Int32) (se2_10 : Nat → Int32) (cd2_11 : Nat → Int32) (sl2_12 : Nat → Int32) (od2_13 : Nat → Int32) (ow2_14 : Nat → Int32) (lo2_15 : Int32) (mi2_16 : Int32) (sd2_17 : Int32), (CN gNs_4 gNp_5 gv_6 ht2_8 wm2_9 se2_10 cd2_11 sl2_12 od2_13 ow2_14 lo2_15 mi2_16 sd2_17) → (((¬ (0 ≤ x.toInt ∧ x.toInt ≤ 1) ∧ (1 : Int32) = -1000000001 ∧ ht2_8 = ht ∧ wm2_9 = wm ∧ se2_10 = se ∧ cd2_11 = cd ∧ sl2_12 = sl ∧ od2_13 = od ∧ ow2_14 = ow ∧ lo2_15 = lo ∧ mi2_16 = mi ∧ sd2_17 = sd) ∨ (x.toInt = 0 ∧ bt kp 0 = false ∧ (1 : Int32) = -1000000003 ∧ ht2_8 = ht ∧ wm2_9 = wm ∧ se2_10 = se ∧ cd2_11 = cd ∧ sl2_12 = sl ∧ od2_13 = od ∧ ow2_14 = ow ∧ lo2_15 = lo ∧ mi2_16 = mi ∧ sd2_17 = sd) ∨ (x.toInt = 1 ∧ bt kp 1 = false ∧ (1 : Int32) = -1000000003 ∧ ht2_8 = ht ∧ wm2_9 = wm ∧ se2_10 = se ∧ cd2_11 = cd ∧ sl2_12 = sl ∧ od2_13 = od ∧ ow2_14 = ow ∧ lo2_15 = lo ∧ mi2_16 = mi ∧ sd2_17 = sd) ∨ (x.toInt = 0 ∧ bt kp 0 = true ∧ (1 : Int32) = 1 ∧ CN Ns Np v0 ht2_8 wm2_9 se2_10 cd2_11 sl2_12 od2_13 ow2_14 lo2_15 mi2_16 sd2_17) ∨ (x.toInt = 1 ∧ bt kp 1 = true ∧ (1 : Int32) = 1 ∧ CN Ns Np v1 ht2_8 wm2_9 se2_10 cd2_11 sl2_12 od2_13 ow2_14 lo2_15 mi2_16 sd2_17)))))) ∧ (x = 1 → ∃ (gNs_19 : Nat) (gNp_20 : Nat) (gv_21 : Nat → Int), ((CN gNs_19 gNp_20 gv_21 htz wmz sez cdz slz odz owz loz miz sdz ∧ gNs_19 ≤ 9 ∧ gNp_20 ≤ 8) ∧ (∀ (ht2_23 : Nat → Int32) (wm2_24 : Nat → Int32) (se2_25 : Nat → Int32) (cd2_26 : Nat → Int32) (sl2_27 : Nat → Int32) (od2_28 : Nat → Int32) (ow2_29 : Nat → Int32) (lo2_30 : Int32) (mi2_31 : Int32) (sd2_32 : Int32), (CN gNs_19 gNp_20 gv_21 ht2_23 wm2_24 se2_25 cd2_26 sl2_27 od2_28 ow2_29 lo2_30 mi2_31 sd2_32) → (((¬ (0 ≤ x.toInt ∧ x.toInt ≤ 1) ∧ (1 : Int32) = -1000000001 ∧ ht2_23 = ht ∧ wm2_24 = wm ∧ se2_25 = se ∧ cd2_26 = cd ∧ sl2_27 = sl ∧ od2_28 = od ∧ ow2_29 = ow ∧ lo2_30 = lo ∧ mi2_31 = mi ∧ sd2_32 = sd) ∨ (x.toInt = 0 ∧ bt kp 0 = false ∧ (1 : Int32) = -1000000003 ∧ ht2_23 = ht ∧ wm2_24 = wm ∧ se2_25 = se ∧ cd2_26 = cd ∧ sl2_27 = sl ∧ od2_28 = od ∧ ow2_29 = ow ∧ lo2_30 = lo ∧ mi2_31 = mi ∧ sd2_32 = sd) ∨ (x.toInt = 1 ∧ bt kp 1 = false ∧ (1 : Int32) = -1000000003 ∧ ht2_23 = ht ∧ wm2_24 = wm ∧ se2_25 = se ∧ cd2_26 = cd ∧ sl2_27 = sl ∧ od2_28 = od ∧ ow2_29 = ow ∧ lo2_30 = lo ∧ mi2_31 = mi ∧ sd2_32 = sd) ∨ (x.toInt = 0 ∧ bt kp 0 = true ∧ (1 : Int32) = 1 ∧ CN Ns Np v0 ht2_23 wm2_24 se2_25 cd2_26 sl2_27 od2_28 ow2_29 lo2_30 mi2_31 sd2_32) ∨ (x.toInt = 1 ∧ bt kp 1 = true ∧ (1 : Int32) = 1 ∧ CN Ns Np v1 ht2_23 wm2_24 se2_25 cd2_26 sl2_27 od2_28 ow2_29 lo2_30 mi2_31 sd2_32)))))))) ∧ (((kp >>> (x &&& 31)) &&& 1) = 0 → ((¬ (0 ≤ x.toInt ∧ x.toInt ≤ 1) ∧ ((-1000000003) : Int32) = -1000000001 ∧ ht = ht ∧ wm = wm ∧ se = se ∧ cd = cd ∧ sl = sl ∧ od = od ∧ ow = ow ∧ lo = lo ∧ mi = mi ∧ sd = sd) ∨ (x.toInt = 0 ∧ bt kp 0 = false ∧ ((-1000000003) : Int32) = -1000000003 ∧ ht = ht ∧ wm = wm ∧ se = se ∧ cd = cd ∧ sl = sl ∧ od = od ∧ ow = ow ∧ lo = lo ∧ mi = mi ∧ sd = sd) ∨ (x.toInt = 1 ∧ bt kp 1 = false ∧ ((-1000000003) : Int32) = -1000000003 ∧ ht = ht ∧ wm = wm ∧ se = se ∧ cd = cd ∧ sl = sl ∧ od = od ∧ ow = ow ∧ lo = lo ∧ mi = mi ∧ sd = sd) ∨ (x.toInt = 0 ∧ bt kp 0 = true ∧ ((-1000000003) : Int32) = 1 ∧ CN Ns Np v0 ht wm se cd sl od ow lo mi sd) ∨ (x.toInt = 1 ∧ bt kp 1 = true ∧ ((-1000000003) : Int32) = 1 ∧ CN Ns Np v1 ht wm se cd sl od ow lo mi sd)))) ∧ (¬ (¬ x < 0 ∧ ¬ 1 < x) → ((¬ (0 ≤ x.toInt ∧ x.toInt ≤ 1) ∧ ((-1000000001) : Int32) = -1000000001 ∧ ht = ht ∧ wm = wm ∧ se = se ∧ cd = cd ∧ sl = sl ∧ od = od ∧ ow = ow ∧ lo = lo ∧ mi = mi ∧ sd = sd) ∨ (x.toInt = 0 ∧ bt kp 0 = false ∧ ((-1000000001) : Int32) = -1000000003 ∧ ht = ht ∧ wm = wm ∧ se = se ∧ cd = cd ∧ sl = sl ∧ od = od ∧ ow = ow ∧ lo = lo ∧ mi = mi ∧ sd = sd) ∨ (x.toInt = 1 ∧ bt kp 1 = false ∧ ((-1000000001) : Int32) = -1000000003 ∧ ht = ht ∧ wm = wm ∧ se = se ∧ cd = cd ∧ sl = sl ∧ od = od ∧ ow = ow ∧ lo = lo ∧ mi = mi ∧ sd = sd) ∨ (x.toInt = 0 ∧ bt kp 0 = true ∧ ((-1000000001) : Int32) = 1 ∧ CN Ns Np v0 ht wm se cd sl od ow lo mi sd) ∨ (x.toInt = 1 ∧ bt kp 1 = true ∧ ((-1000000001) : Int32) = 1 ∧ CN Ns Np v1 ht wm se cd sl od ow lo mi sd)))) : MetI l yX7_goBack wsX7_goBack 2 51 G [.ref h0, .int x] [(h0, .inr (7, [.ref e0, .ref t, .ref k, .ref n, .ref j, .ref i0, .int kp, .ref b0, .ref s0, .ref q, .ref g])), (n, .inr (1, [.ref n1, .ref n2, .ref n3, .ref n4, .ref n5, .ref n6, .ref n7, .int lo, .int mi, .int sd])), aI G n1 9 ht, aI G n2 8 wm, aI G n3 8 se, aI G n4 8 cd, aI G n5 8 sl, aI G n6 8 od, aI G n7 72 ow, aN G i0 2 (fun k => if k = 0 then some y else some z), (y, .inr (1, [.ref y1, .ref y2, .ref y3, .ref y4, .ref y5, .ref y6, .ref y7, .int loy, .int miy, .int sdy])), aI G y1 9 hty, aI G y2 8 wmy, aI G y3 8 sey, aI G y4 8 cdy, aI G y5 8 sly, aI G y6 8 ody, aI G y7 72 owy, (z, .inr (1, [.ref z1, .ref z2, .ref z3, .ref z4, .ref z5, .ref z6, .ref z7, .int loz, .int miz, .int sdz])), aI G z1 9 htz, aI G z2 8 wmz, aI G z3 8 sez, aI G z4 8 cdz, aI G z5 8 slz, aI G z6 8 odz, aI G z7 72 owz] sz (fun (r : Int32) (u : (Nat → Int32) × (Nat → Int32) × (Nat → Int32) × (Nat → Int32) × (Nat → Int32) × (Nat → Int32) × (Nat → Int32) × (Int32) × (Int32) × (Int32)) => ((¬ (0 ≤ x.toInt ∧ x.toInt ≤ 1) ∧ r = -1000000001 ∧ u.1 = ht ∧ u.2.1 = wm ∧ u.2.2.1 = se ∧ u.2.2.2.1 = cd ∧ u.2.2.2.2.1 = sl ∧ u.2.2.2.2.2.1 = od ∧ u.2.2.2.2.2.2.1 = ow ∧ u.2.2.2.2.2.2.2.1 = lo ∧ u.2.2.2.2.2.2.2.2.1 = mi ∧ u.2.2.2.2.2.2.2.2.2 = sd) ∨ (x.toInt = 0 ∧ bt kp 0 = false ∧ r = -1000000003 ∧ u.1 = ht ∧ u.2.1 = wm ∧ u.2.2.1 = se ∧ u.2.2.2.1 = cd ∧ u.2.2.2.2.1 = sl ∧ u.2.2.2.2.2.1 = od ∧ u.2.2.2.2.2.2.1 = ow ∧ u.2.2.2.2.2.2.2.1 = lo ∧ u.2.2.2.2.2.2.2.2.1 = mi ∧ u.2.2.2.2.2.2.2.2.2 = sd) ∨ (x.toInt = 1 ∧ bt kp 1 = false ∧ r = -1000000003 ∧ u.1 = ht ∧ u.2.1 = wm ∧ u.2.2.1 = se ∧ u.2.2.2.1 = cd ∧ u.2.2.2.2.1 = sl ∧ u.2.2.2.2.2.1 = od ∧ u.2.2.2.2.2.2.1 = ow ∧ u.2.2.2.2.2.2.2.1 = lo ∧ u.2.2.2.2.2.2.2.2.1 = mi ∧ u.2.2.2.2.2.2.2.2.2 = sd) ∨ (x.toInt = 0 ∧ bt kp 0 = true ∧ r = 1 ∧ CN Ns Np v0 u.1 u.2.1 u.2.2.1 u.2.2.2.1 u.2.2.2.2.1 u.2.2.2.2.2.1 u.2.2.2.2.2.2.1 u.2.2.2.2.2.2.2.1 u.2.2.2.2.2.2.2.2.1 u.2.2.2.2.2.2.2.2.2) ∨ (x.toInt = 1 ∧ bt kp 1 = true ∧ r = 1 ∧ CN Ns Np v1 u.1 u.2.1 u.2.2.1 u.2.2.2.1 u.2.2.2.2.1 u.2.2.2.2.2.1 u.2.2.2.2.2.2.1 u.2.2.2.2.2.2.2.1 u.2.2.2.2.2.2.2.2.1 u.2.2.2.2.2.2.2.2.2))) (fun (u : (Nat → Int32) × (Nat → Int32) × (Nat → Int32) × (Nat → Int32) × (Nat → Int32) × (Nat → Int32) × (Nat → Int32) × (Int32) × (Int32) × (Int32)) => [(h0, .inr (7, [.ref e0, .ref t, .ref k, .ref n, .ref j, .ref i0, .int kp, .ref b0, .ref s0, .ref q, .ref g])), (n, .inr (1, [.ref n1, .ref n2, .ref n3, .ref n4, .ref n5, .ref n6, .ref n7, .int u.2.2.2.2.2.2.2.1, .int u.2.2.2.2.2.2.2.2.1, .int u.2.2.2.2.2.2.2.2.2])), aI G n1 9 u.1, aI G n2 8 u.2.1, aI G n3 8 u.2.2.1, aI G n4 8 u.2.2.2.1, aI G n5 8 u.2.2.2.2.1, aI G n6 8 u.2.2.2.2.2.1, aI G n7 72 u.2.2.2.2.2.2.1, aN G i0 2 (fun k => if k = 0 then some y else some z), (y, .inr (1, [.ref y1, .ref y2, .ref y3, .ref y4, .ref y5, .ref y6, .ref y7, .int loy, .int miy, .int sdy])), aI G y1 9 hty, aI G y2 8 wmy, aI G y3 8 sey, aI G y4 8 cdy, aI G y5 8 sly, aI G y6 8 ody, aI G y7 72 owy, (z, .inr (1, [.ref z1, .ref z2, .ref z3, .ref z4, .ref z5, .ref z6, .ref z7, .int loz, .int miz, .int sdz])), aI G z1 9 htz, aI G z2 8 wmz, aI G z3 8 sez, aI G z4 8 cdz, aI G z5 8 slz, aI G z6 8 odz, aI G z7 72 owz]) := by
  refine x_startI (cc := cX7_goBack) (maxL := 2) (ret := (some .int)) (by decide) rfl (Nat.le_of_ble_eq_true rfl) ?_
  intro p e s m args below meth c A R Q ls hRf hRl hQ C hP hD hS hA hSS hl
  obtain ⟨hx, hb, hr, hml, hown, hts, hlocks, hKK⟩ := C
  have hown : s.vm.findClass RX7 = some m.cls := hown
  have hl : lv_has ls 2 [(0, .ref h0), (1, .int x)] := hl
  have hinX7 : ∀ w ∈ u_ws RX7 TX7 11, w ∈ wsX7_goBack := by decide +kernel
  have kl143 := hts (.constant RX7 143 (-1000000001)) (by decide +kernel)
  have kl179 := hts (.constant RX7 179 (-1000000003)) (by decide +kernel)
  have kl29 := hts (.fieldLink RX7 29 "WarmStones" "night" "LWarmStones$Night;") (by decide +kernel)
  have kl36 := hts (.fieldLink RX7 36 "WarmStones" "images" "[LWarmStones$Night;") (by decide +kernel)
  have kl97 := hts (.fieldLink RX7 97 "WarmStones" "kept" "I") (by decide +kernel)
  refine lv_iload_n hx hb dX7_goBack_0 rfl (lv_at hl 1 rfl) ?_
  refine lv_iconst (v := 0) hx hb dX7_goBack_1 (by decide) ?_
  refine lv_iconst (v := 1) hx hb dX7_goBack_2 (by decide) ?_
  refine x_calliR (x_runS (As := [.int x, .int 0, .int 1]) (rest := []) (n := 3) ⟨hx, hb, hml, hown, hts⟩ (k_X7_within l G  _ x 0 1) gX7_goBack_X7_within rfl (by decide +kernel) ⟨Nat.le_trans (Nat.le_of_ble_eq_true rfl) hRf, Nat.le_trans (Nat.le_of_ble_eq_true rfl) hRl⟩ hKK hSS hS hA hP hD [] (by decide) rfl rfl hl.1 rfl (Nat.le_of_ble_eq_true rfl) dX7_goBack_3) hP hD hS hA [] rfl (fun r_1 _ H locs hw hP hS => ?_)
  replace hw := hw.symm; subst hw
  refine lv_if_ne (tgt := 12) hx hb dX7_goBack_6 (by decide) (fun hc_2 => ?_) (fun hc_2 => ?_)
  · have hv := hv.1 (tv_eqn.mp hc_2)
    refine lv_aload_n hx hb dX7_goBack_12 rfl (lv_at hl 0 rfl) ?_
    refine va_get (D := G.1) (ci := 7) (v := .int kp) (C := RX7) (T := TX7) (N := 11) hx hb hts hinX7 hown hKK.1 hP 0 rfl rfl 6 (by decide) kl97 (fun _ h9 => h9) rfl dX7_goBack_13 ?_
    refine lv_iload_n hx hb dX7_goBack_16 rfl (lv_at hl 1 rfl) ?_
    refine lv_ishr hx hb dX7_goBack_17 ?_
    refine lv_iconst (v := 1) hx hb dX7_goBack_18 (by decide) ?_
    refine lv_iand hx hb dX7_goBack_19 ?_
    refine lv_if_ne (tgt := 26) hx hb dX7_goBack_20 (by decide) (fun hc_3 => ?_) (fun hc_3 => ?_)
    · have hv := hv.1 hc_3
      refine lv_aload_n hx hb dX7_goBack_26 rfl (lv_at hl 0 rfl) ?_
      refine va_get (D := G.1) (ci := 7) (v := .ref n) (C := RX7) (T := TX7) (N := 11) hx hb hts hinX7 hown hKK.1 hP 0 rfl rfl 3 (by decide) kl29 (fun _ h9 => h9) rfl dX7_goBack_27 ?_
      refine lv_aload_n hx hb dX7_goBack_30 rfl (lv_at hl 0 rfl) ?_
      refine va_get (D := G.1) (ci := 7) (v := .ref i0) (C := RX7) (T := TX7) (N := 11) hx hb hts hinX7 hown hKK.1 hP 0 rfl rfl 5 (by decide) kl36 (fun _ h9 => h9) rfl dX7_goBack_31 ?_
      refine lv_iload_n hx hb dX7_goBack_34 rfl (lv_at hl 1 rfl) ?_
      obtain ⟨h01, hv⟩ := hv
      rcases h01 with hk_18 | hk_33
      · have hv := hv.1 hk_18
        refine va_aldq hx hb hKK.1 hP 9 4 rfl rfl (by rw [hk_18]; unfold vp_in; decide) dX7_goBack_35 ?_
        refine W.eq (g2 := F0 m 36 ls [.ref y, .ref n]) (by rw [hk_18]; rfl) ?_
        obtain ⟨gNs_4, gNp_5, gv_6, hv⟩ := hv
        obtain ⟨hp, hv⟩ := hv
        refine x_callv (wr := [(h0, .inr (7, [.ref e0, .ref t, .ref k, .ref n, .ref j, .ref i0, .int kp, .ref b0, .ref s0, .ref q, .ref g])), aN G i0 2 (fun k => if k = 0 then some y else some z), (z, .inr (1, [.ref z1, .ref z2, .ref z3, .ref z4, .ref z5, .ref z6, .ref z7, .int loz, .int miz, .int sdz])), aI G z1 9 htz, aI G z2 8 wmz, aI G z3 8 sez, aI G z4 8 cdz, aI G z5 8 slz, aI G z6 8 odz, aI G z7 72 owz]) (w' := fun (u : (Nat → Int32) × (Nat → Int32) × (Nat → Int32) × (Nat → Int32) × (Nat → Int32) × (Nat → Int32) × (Nat → Int32) × (Int32) × (Int32) × (Int32)) => [(h0, .inr (7, [.ref e0, .ref t, .ref k, .ref n, .ref j, .ref i0, .int kp, .ref b0, .ref s0, .ref q, .ref g])), (n, .inr (1, [.ref n1, .ref n2, .ref n3, .ref n4, .ref n5, .ref n6, .ref n7, .int u.2.2.2.2.2.2.2.1, .int u.2.2.2.2.2.2.2.2.1, .int u.2.2.2.2.2.2.2.2.2])), aI G n1 9 u.1, aI G n2 8 u.2.1, aI G n3 8 u.2.2.1, aI G n4 8 u.2.2.2.1, aI G n5 8 u.2.2.2.2.1, aI G n6 8 u.2.2.2.2.2.1, aI G n7 72 u.2.2.2.2.2.2.1, aN G i0 2 (fun k => if k = 0 then some y else some z), (y, .inr (1, [.ref y1, .ref y2, .ref y3, .ref y4, .ref y5, .ref y6, .ref y7, .int loy, .int miy, .int sdy])), aI G y1 9 hty, aI G y2 8 wmy, aI G y3 8 sey, aI G y4 8 cdy, aI G y5 8 sly, aI G y6 8 ody, aI G y7 72 owy, (z, .inr (1, [.ref z1, .ref z2, .ref z3, .ref z4, .ref z5, .ref z6, .ref z7, .int loz, .int miz, .int sdz])), aI G z1 9 htz, aI G z2 8 wmz, aI G z3 8 sez, aI G z4 8 cdz, aI G z5 8 slz, aI G z6 8 odz, aI G z7 72 owz]) (x_runV (As := [.ref y]) (rest := []) (n := 1) (C := RX1) (ci := 1) ⟨hx, hb, hml, hown, hts⟩ (k_X1_copyFrom l G n n1 n2 n3 n4 n5 n6 n7 y y1 y2 y3 y4 y5 y6 y7 _ ht wm se cd sl od ow lo mi sd hty wmy sey cdy sly ody owy loy miy sdy gNs_4 gNp_5 gv_6 hp) gX7_goBack_X1_copyFrom rfl (by decide +kernel) ⟨Nat.le_trans (Nat.le_of_ble_eq_true rfl) hRf, Nat.le_trans (Nat.le_of_ble_eq_true rfl) hRl⟩ hKK hSS hS hA hP hD [1, 2, 3, 4, 5, 6, 7, 8, 10, 11, 12, 13, 14, 15, 16, 17] (by decide) rfl rfl rfl 1 rfl rfl hl.1 rfl (Nat.le_of_ble_eq_true rfl) dX7_goBack_36) hP hD hS hA [1, 2, 3, 4, 5, 6, 7, 8, 10, 11, 12, 13, 14, 15, 16, 17] [0, 9, 18, 19, 20, 21, 22, 23, 24, 25] [0, 10, 11, 12, 13, 14, 15, 16, 17, 1, 18, 19, 20, 21, 22, 23, 24, 25, 2, 3, 4, 5, 6, 7, 8, 9] rfl rfl (by decide) (by decide) (by decide) (fun _ => rfl) (fun  u H locs hw hP hD hS => ?_)
        obtain ⟨ht2_8, wm2_9, se2_10, cd2_11, sl2_12, od2_13, ow2_14, lo2_15, mi2_16, sd2_17⟩ := u
        have hP : va_P G.1 vwCl [(h0, .inr (7, [.ref e0, .ref t, .ref k, .ref n, .ref j, .ref i0, .int kp, .ref b0, .ref s0, .ref q, .ref g])), (n, .inr (1, [.ref n1, .ref n2, .ref n3, .ref n4, .ref n5, .ref n6, .ref n7, .int lo2_15, .int mi2_16, .int sd2_17])), aI G n1 9 ht2_8, aI G n2 8 wm2_9, aI G n3 8 se2_10, aI G n4 8 cd2_11, aI G n5 8 sl2_12, aI G n6 8 od2_13, aI G n7 72 ow2_14, aN G i0 2 (fun k => if k = 0 then some y else some z), (y, .inr (1, [.ref y1, .ref y2, .ref y3, .ref y4, .ref y5, .ref y6, .ref y7, .int loy, .int miy, .int sdy])), aI G y1 9 hty, aI G y2 8 wmy, aI G y3 8 sey, aI G y4 8 cdy, aI G y5 8 sly, aI G y6 8 ody, aI G y7 72 owy, (z, .inr (1, [.ref z1, .ref z2, .ref z3, .ref z4, .ref z5, .ref z6, .ref z7, .int loz, .int miz, .int sdz])), aI G z1 9 htz, aI G z2 8 wmz, aI G z3 8 sez, aI G z4 8 cdz, aI G z5 8 slz, aI G z6 8 odz, aI G z7 72 owz] H := hP
        have hD : va_D A [(h0, .inr (7, [.ref e0, .ref t, .ref k, .ref n, .ref j, .ref i0, .int kp, .ref b0, .ref s0, .ref q, .ref g])), (n, .inr (1, [.ref n1, .ref n2, .ref n3, .ref n4, .ref n5, .ref n6, .ref n7, .int lo2_15, .int mi2_16, .int sd2_17])), aI G n1 9 ht2_8, aI G n2 8 wm2_9, aI G n3 8 se2_10, aI G n4 8 cd2_11, aI G n5 8 sl2_12, aI G n6 8 od2_13, aI G n7 72 ow2_14, aN G i0 2 (fun k => if k = 0 then some y else some z), (y, .inr (1, [.ref y1, .ref y2, .ref y3, .ref y4, .ref y5, .ref y6, .ref y7, .int loy, .int miy, .int sdy])), aI G y1 9 hty, aI G y2 8 wmy, aI G y3 8 sey, aI G y4 8 cdy, aI G y5 8 sly, aI G y6 8 ody, aI G y7 72 owy, (z, .inr (1, [.ref z1, .ref z2, .ref z3, .ref z4, .ref z5, .ref z6, .ref z7, .int loz, .int miz, .int sdz])), aI G z1 9 htz, aI G z2 8 wmz, aI G z3 8 sez, aI G z4 8 cdz, aI G z5 8 slz, aI G z6 8 odz, aI G z7 72 owz] := hD
        have hv := hv ht2_8 wm2_9 se2_10 cd2_11 sl2_12 od2_13 ow2_14 lo2_15 mi2_16 sd2_17 hw
        refine lv_iconst (v := 1) hx hb dX7_goBack_39 (by decide) ?_
        exact x_iret (v := 1) (ht2_8, wm2_9, se2_10, cd2_11, sl2_12, od2_13, ow2_14, lo2_15, mi2_16, sd2_17) hQ hx hb hr hlocks hS dX7_goBack_40 hv hP hD
      · have hv := hv.2 hk_33
        refine va_aldq hx hb hKK.1 hP 9 4 rfl rfl (by rw [hk_33]; unfold vp_in; decide) dX7_goBack_35 ?_
        refine W.eq (g2 := F0 m 36 ls [.ref z, .ref n]) (by rw [hk_33]; rfl) ?_
        obtain ⟨gNs_19, gNp_20, gv_21, hv⟩ := hv
        obtain ⟨hp, hv⟩ := hv
        refine x_callv (wr := [(h0, .inr (7, [.ref e0, .ref t, .ref k, .ref n, .ref j, .ref i0, .int kp, .ref b0, .ref s0, .ref q, .ref g])), aN G i0 2 (fun k => if k = 0 then some y else some z), (y, .inr (1, [.ref y1, .ref y2, .ref y3, .ref y4, .ref y5, .ref y6, .ref y7, .int loy, .int miy, .int sdy])), aI G y1 9 hty, aI G y2 8 wmy, aI G y3 8 sey, aI G y4 8 cdy, aI G y5 8 sly, aI G y6 8 ody, aI G y7 72 owy]) (w' := fun (u : (Nat → Int32) × (Nat → Int32) × (Nat → Int32) × (Nat → Int32) × (Nat → Int32) × (Nat → Int32) × (Nat → Int32) × (Int32) × (Int32) × (Int32)) => [(h0, .inr (7, [.ref e0, .ref t, .ref k, .ref n, .ref j, .ref i0, .int kp, .ref b0, .ref s0, .ref q, .ref g])), (n, .inr (1, [.ref n1, .ref n2, .ref n3, .ref n4, .ref n5, .ref n6, .ref n7, .int u.2.2.2.2.2.2.2.1, .int u.2.2.2.2.2.2.2.2.1, .int u.2.2.2.2.2.2.2.2.2])), aI G n1 9 u.1, aI G n2 8 u.2.1, aI G n3 8 u.2.2.1, aI G n4 8 u.2.2.2.1, aI G n5 8 u.2.2.2.2.1, aI G n6 8 u.2.2.2.2.2.1, aI G n7 72 u.2.2.2.2.2.2.1, aN G i0 2 (fun k => if k = 0 then some y else some z), (y, .inr (1, [.ref y1, .ref y2, .ref y3, .ref y4, .ref y5, .ref y6, .ref y7, .int loy, .int miy, .int sdy])), aI G y1 9 hty, aI G y2 8 wmy, aI G y3 8 sey, aI G y4 8 cdy, aI G y5 8 sly, aI G y6 8 ody, aI G y7 72 owy, (z, .inr (1, [.ref z1, .ref z2, .ref z3, .ref z4, .ref z5, .ref z6, .ref z7, .int loz, .int miz, .int sdz])), aI G z1 9 htz, aI G z2 8 wmz, aI G z3 8 sez, aI G z4 8 cdz, aI G z5 8 slz, aI G z6 8 odz, aI G z7 72 owz]) (x_runV (As := [.ref z]) (rest := []) (n := 1) (C := RX1) (ci := 1) ⟨hx, hb, hml, hown, hts⟩ (k_X1_copyFrom l G n n1 n2 n3 n4 n5 n6 n7 z z1 z2 z3 z4 z5 z6 z7 _ ht wm se cd sl od ow lo mi sd htz wmz sez cdz slz odz owz loz miz sdz gNs_19 gNp_20 gv_21 hp) gX7_goBack_X1_copyFrom rfl (by decide +kernel) ⟨Nat.le_trans (Nat.le_of_ble_eq_true rfl) hRf, Nat.le_trans (Nat.le_of_ble_eq_true rfl) hRl⟩ hKK hSS hS hA hP hD [1, 2, 3, 4, 5, 6, 7, 8, 18, 19, 20, 21, 22, 23, 24, 25] (by decide) rfl rfl rfl 1 rfl rfl hl.1 rfl (Nat.le_of_ble_eq_true rfl) dX7_goBack_36) hP hD hS hA [1, 2, 3, 4, 5, 6, 7, 8, 18, 19, 20, 21, 22, 23, 24, 25] [0, 9, 10, 11, 12, 13, 14, 15, 16, 17] [0, 10, 11, 12, 13, 14, 15, 16, 17, 1, 2, 3, 4, 5, 6, 7, 8, 9, 18, 19, 20, 21, 22, 23, 24, 25] rfl rfl (by decide) (by decide) (by decide) (fun _ => rfl) (fun  u H locs hw hP hD hS => ?_)
        obtain ⟨ht2_23, wm2_24, se2_25, cd2_26, sl2_27, od2_28, ow2_29, lo2_30, mi2_31, sd2_32⟩ := u
        have hP : va_P G.1 vwCl [(h0, .inr (7, [.ref e0, .ref t, .ref k, .ref n, .ref j, .ref i0, .int kp, .ref b0, .ref s0, .ref q, .ref g])), (n, .inr (1, [.ref n1, .ref n2, .ref n3, .ref n4, .ref n5, .ref n6, .ref n7, .int lo2_30, .int mi2_31, .int sd2_32])), aI G n1 9 ht2_23, aI G n2 8 wm2_24, aI G n3 8 se2_25, aI G n4 8 cd2_26, aI G n5 8 sl2_27, aI G n6 8 od2_28, aI G n7 72 ow2_29, aN G i0 2 (fun k => if k = 0 then some y else some z), (y, .inr (1, [.ref y1, .ref y2, .ref y3, .ref y4, .ref y5, .ref y6, .ref y7, .int loy, .int miy, .int sdy])), aI G y1 9 hty, aI G y2 8 wmy, aI G y3 8 sey, aI G y4 8 cdy, aI G y5 8 sly, aI G y6 8 ody, aI G y7 72 owy, (z, .inr (1, [.ref z1, .ref z2, .ref z3, .ref z4, .ref z5, .ref z6, .ref z7, .int loz, .int miz, .int sdz])), aI G z1 9 htz, aI G z2 8 wmz, aI G z3 8 sez, aI G z4 8 cdz, aI G z5 8 slz, aI G z6 8 odz, aI G z7 72 owz] H := hP
        have hD : va_D A [(h0, .inr (7, [.ref e0, .ref t, .ref k, .ref n, .ref j, .ref i0, .int kp, .ref b0, .ref s0, .ref q, .ref g])), (n, .inr (1, [.ref n1, .ref n2, .ref n3, .ref n4, .ref n5, .ref n6, .ref n7, .int lo2_30, .int mi2_31, .int sd2_32])), aI G n1 9 ht2_23, aI G n2 8 wm2_24, aI G n3 8 se2_25, aI G n4 8 cd2_26, aI G n5 8 sl2_27, aI G n6 8 od2_28, aI G n7 72 ow2_29, aN G i0 2 (fun k => if k = 0 then some y else some z), (y, .inr (1, [.ref y1, .ref y2, .ref y3, .ref y4, .ref y5, .ref y6, .ref y7, .int loy, .int miy, .int sdy])), aI G y1 9 hty, aI G y2 8 wmy, aI G y3 8 sey, aI G y4 8 cdy, aI G y5 8 sly, aI G y6 8 ody, aI G y7 72 owy, (z, .inr (1, [.ref z1, .ref z2, .ref z3, .ref z4, .ref z5, .ref z6, .ref z7, .int loz, .int miz, .int sdz])), aI G z1 9 htz, aI G z2 8 wmz, aI G z3 8 sez, aI G z4 8 cdz, aI G z5 8 slz, aI G z6 8 odz, aI G z7 72 owz] := hD
        have hv := hv ht2_23 wm2_24 se2_25 cd2_26 sl2_27 od2_28 ow2_29 lo2_30 mi2_31 sd2_32 hw
        refine lv_iconst (v := 1) hx hb dX7_goBack_39 (by decide) ?_
        exact x_iret (v := 1) (ht2_23, wm2_24, se2_25, cd2_26, sl2_27, od2_28, ow2_29, lo2_30, mi2_31, sd2_32) hQ hx hb hr hlocks hS dX7_goBack_40 hv hP hD
    · have hv := hv.2 hc_3
      refine lv_ldc (v := (-1000000003)) hx hb hown kl179 dX7_goBack_23 ?_
      exact x_iret (v := (-1000000003)) (ht, wm, se, cd, sl, od, ow, lo, mi, sd) hQ hx hb hr hlocks hS dX7_goBack_25 hv hP hD
  · have hv := hv.2 (tv_eq.mp hc_2)
    refine lv_ldc (v := (-1000000001)) hx hb hown kl143 dX7_goBack_9 ?_
    exact x_iret (v := (-1000000001)) (ht, wm, se, cd, sl, od, ow, lo, mi, sd) hQ hx hb hr hlocks hS dX7_goBack_11 hv hP hD
theorem v_X7_goBack (l : Launch) (G : Gt) (h0 n n1 n2 n3 n4 n5 n6 n7 i0 y y1 y2 y3 y4 y5 y6 y7 z z1 z2 z3 z4 z5 z6 z7 : Nat) (sz : Nat) (e0 : Nat) (t : Nat) (k : Nat) (j : Nat) (b0 : Nat) (s0 : Nat) (q : Nat) (g : Nat) (kp : Int32) (ht : Nat → Int32) (wm : Nat → Int32) (se : Nat → Int32) (cd : Nat → Int32) (sl : Nat → Int32) (od : Nat → Int32) (ow : Nat → Int32) (lo : Int32) (mi : Int32) (sd : Int32) (hty : Nat → Int32) (wmy : Nat → Int32) (sey : Nat → Int32) (cdy : Nat → Int32) (sly : Nat → Int32) (ody : Nat → Int32) (owy : Nat → Int32) (loy : Int32) (miy : Int32) (sdy : Int32) (htz : Nat → Int32) (wmz : Nat → Int32) (sez : Nat → Int32) (cdz : Nat → Int32) (slz : Nat → Int32) (odz : Nat → Int32) (owz : Nat → Int32) (loz : Int32) (miz : Int32) (sdz : Int32) (x : Int32) (Ns : Nat) (Np : Nat) (v0 : Nat → Int) (v1 : Nat → Int) (hp : (bt kp 0 = true → CN Ns Np v0 hty wmy sey cdy sly ody owy loy miy sdy) ∧ (bt kp 1 = true → CN Ns Np v1 htz wmz sez cdz slz odz owz loz miz sdz) ∧ Ns ≤ 9 ∧ Np ≤ 8) : (¬ x < 0 ∧ ¬ 1 < x → (¬ ((kp >>> (x &&& 31)) &&& 1) = 0 → (x = 0 ∨ x = 1) ∧ ((x = 0 → ∃ (gNs_4 : Nat) (gNp_5 : Nat) (gv_6 : Nat → Int), ((CN gNs_4 gNp_5 gv_6 hty wmy sey cdy sly ody owy loy miy sdy ∧ gNs_4 ≤ 9 ∧ gNp_5 ≤ 8) ∧ (∀ (ht2_8 : Nat → Int32) (wm2_9 : Nat → Int32) (se2_10 : Nat → Int32) (cd2_11 : Nat → Int32) (sl2_12 : Nat → Int32) (od2_13 : Nat → Int32) (ow2_14 : Nat → Int32) (lo2_15 : Int32) (mi2_16 : Int32) (sd2_17 : Int32), (CN gNs_4 gNp_5 gv_6 ht2_8 wm2_9 se2_10 cd2_11 sl2_12 od2_13 ow2_14 lo2_15 mi2_16 sd2_17) → (((¬ (0 ≤ x.toInt ∧ x.toInt ≤ 1) ∧ (1 : Int32) = -1000000001 ∧ ht2_8 = ht ∧ wm2_9 = wm ∧ se2_10 = se ∧ cd2_11 = cd ∧ sl2_12 = sl ∧ od2_13 = od ∧ ow2_14 = ow ∧ lo2_15 = lo ∧ mi2_16 = mi ∧ sd2_17 = sd) ∨ (x.toInt = 0 ∧ bt kp 0 = false ∧ (1 : Int32) = -1000000003 ∧ ht2_8 = ht ∧ wm2_9 = wm ∧ se2_10 = se ∧ cd2_11 = cd ∧ sl2_12 = sl ∧ od2_13 = od ∧ ow2_14 = ow ∧ lo2_15 = lo ∧ mi2_16 = mi ∧ sd2_17 = sd) ∨ (x.toInt = 1 ∧ bt kp 1 = false ∧ (1 : Int32) = -1000000003 ∧ ht2_8 = ht ∧ wm2_9 = wm ∧ se2_10 = se ∧ cd2_11 = cd ∧ sl2_12 = sl ∧ od2_13 = od ∧ ow2_14 = ow ∧ lo2_15 = lo ∧ mi2_16 = mi ∧ sd2_17 = sd) ∨ (x.toInt = 0 ∧ bt kp 0 = true ∧ (1 : Int32) = 1 ∧ CN Ns Np v0 ht2_8 wm2_9 se2_10 cd2_11 sl2_12 od2_13 ow2_14 lo2_15 mi2_16 sd2_17) ∨ (x.toInt = 1 ∧ bt kp 1 = true ∧ (1 : Int32) = 1 ∧ CN Ns Np v1 ht2_8 wm2_9 se2_10 cd2_11 sl2_12 od2_13 ow2_14 lo2_15 mi2_16 sd2_17)))))) ∧ (x = 1 → ∃ (gNs_19 : Nat) (gNp_20 : Nat) (gv_21 : Nat → Int), ((CN gNs_19 gNp_20 gv_21 htz wmz sez cdz slz odz owz loz miz sdz ∧ gNs_19 ≤ 9 ∧ gNp_20 ≤ 8) ∧ (∀ (ht2_23 : Nat → Int32) (wm2_24 : Nat → Int32) (se2_25 : Nat → Int32) (cd2_26 : Nat → Int32) (sl2_27 : Nat → Int32) (od2_28 : Nat → Int32) (ow2_29 : Nat → Int32) (lo2_30 : Int32) (mi2_31 : Int32) (sd2_32 : Int32), (CN gNs_19 gNp_20 gv_21 ht2_23 wm2_24 se2_25 cd2_26 sl2_27 od2_28 ow2_29 lo2_30 mi2_31 sd2_32) → (((¬ (0 ≤ x.toInt ∧ x.toInt ≤ 1) ∧ (1 : Int32) = -1000000001 ∧ ht2_23 = ht ∧ wm2_24 = wm ∧ se2_25 = se ∧ cd2_26 = cd ∧ sl2_27 = sl ∧ od2_28 = od ∧ ow2_29 = ow ∧ lo2_30 = lo ∧ mi2_31 = mi ∧ sd2_32 = sd) ∨ (x.toInt = 0 ∧ bt kp 0 = false ∧ (1 : Int32) = -1000000003 ∧ ht2_23 = ht ∧ wm2_24 = wm ∧ se2_25 = se ∧ cd2_26 = cd ∧ sl2_27 = sl ∧ od2_28 = od ∧ ow2_29 = ow ∧ lo2_30 = lo ∧ mi2_31 = mi ∧ sd2_32 = sd) ∨ (x.toInt = 1 ∧ bt kp 1 = false ∧ (1 : Int32) = -1000000003 ∧ ht2_23 = ht ∧ wm2_24 = wm ∧ se2_25 = se ∧ cd2_26 = cd ∧ sl2_27 = sl ∧ od2_28 = od ∧ ow2_29 = ow ∧ lo2_30 = lo ∧ mi2_31 = mi ∧ sd2_32 = sd) ∨ (x.toInt = 0 ∧ bt kp 0 = true ∧ (1 : Int32) = 1 ∧ CN Ns Np v0 ht2_23 wm2_24 se2_25 cd2_26 sl2_27 od2_28 ow2_29 lo2_30 mi2_31 sd2_32) ∨ (x.toInt = 1 ∧ bt kp 1 = true ∧ (1 : Int32) = 1 ∧ CN Ns Np v1 ht2_23 wm2_24 se2_25 cd2_26 sl2_27 od2_28 ow2_29 lo2_30 mi2_31 sd2_32)))))))) ∧ (((kp >>> (x &&& 31)) &&& 1) = 0 → ((¬ (0 ≤ x.toInt ∧ x.toInt ≤ 1) ∧ ((-1000000003) : Int32) = -1000000001 ∧ ht = ht ∧ wm = wm ∧ se = se ∧ cd = cd ∧ sl = sl ∧ od = od ∧ ow = ow ∧ lo = lo ∧ mi = mi ∧ sd = sd) ∨ (x.toInt = 0 ∧ bt kp 0 = false ∧ ((-1000000003) : Int32) = -1000000003 ∧ ht = ht ∧ wm = wm ∧ se = se ∧ cd = cd ∧ sl = sl ∧ od = od ∧ ow = ow ∧ lo = lo ∧ mi = mi ∧ sd = sd) ∨ (x.toInt = 1 ∧ bt kp 1 = false ∧ ((-1000000003) : Int32) = -1000000003 ∧ ht = ht ∧ wm = wm ∧ se = se ∧ cd = cd ∧ sl = sl ∧ od = od ∧ ow = ow ∧ lo = lo ∧ mi = mi ∧ sd = sd) ∨ (x.toInt = 0 ∧ bt kp 0 = true ∧ ((-1000000003) : Int32) = 1 ∧ CN Ns Np v0 ht wm se cd sl od ow lo mi sd) ∨ (x.toInt = 1 ∧ bt kp 1 = true ∧ ((-1000000003) : Int32) = 1 ∧ CN Ns Np v1 ht wm se cd sl od ow lo mi sd)))) ∧ (¬ (¬ x < 0 ∧ ¬ 1 < x) → ((¬ (0 ≤ x.toInt ∧ x.toInt ≤ 1) ∧ ((-1000000001) : Int32) = -1000000001 ∧ ht = ht ∧ wm = wm ∧ se = se ∧ cd = cd ∧ sl = sl ∧ od = od ∧ ow = ow ∧ lo = lo ∧ mi = mi ∧ sd = sd) ∨ (x.toInt = 0 ∧ bt kp 0 = false ∧ ((-1000000001) : Int32) = -1000000003 ∧ ht = ht ∧ wm = wm ∧ se = se ∧ cd = cd ∧ sl = sl ∧ od = od ∧ ow = ow ∧ lo = lo ∧ mi = mi ∧ sd = sd) ∨ (x.toInt = 1 ∧ bt kp 1 = false ∧ ((-1000000001) : Int32) = -1000000003 ∧ ht = ht ∧ wm = wm ∧ se = se ∧ cd = cd ∧ sl = sl ∧ od = od ∧ ow = ow ∧ lo = lo ∧ mi = mi ∧ sd = sd) ∨ (x.toInt = 0 ∧ bt kp 0 = true ∧ ((-1000000001) : Int32) = 1 ∧ CN Ns Np v0 ht wm se cd sl od ow lo mi sd) ∨ (x.toInt = 1 ∧ bt kp 1 = true ∧ ((-1000000001) : Int32) = 1 ∧ CN Ns Np v1 ht wm se cd sl od ow lo mi sd))) := by
  obtain ⟨hN0, hN1, h9, h8⟩ := hp
  have hc : (¬ x < 0 ∧ ¬ 1 < x) ↔ (0 ≤ x.toInt ∧ x.toInt ≤ 1) := wi_iff rfl rfl
  have b0 : ((kp >>> ((0 : Int32) &&& 31)) &&& 1) = 0 ↔ bt kp 0 = false := b_test kp (n := 0) (by omega)
  have b1 : ((kp >>> ((1 : Int32) &&& 31)) &&& 1) = 0 ↔ bt kp 1 = false := b_test kp (n := 1) (by omega)
  refine ⟨fun h0 => ?_, fun h => Or.inl ⟨fun q => h (hc.mpr q), rfl, rfl, rfl, rfl, rfl, rfl, rfl, rfl, rfl, rfl, rfl⟩⟩
  have h01 : x = 0 ∨ x = 1 := by
    have := hc.mp h0
    rw [show x = 0 ↔ x.toInt = 0 from i_eq rfl rfl, show x = 1 ↔ x.toInt = 1 from i_eq rfl rfl]
    omega
  rcases h01 with rfl | rfl
  · refine ⟨fun h => ⟨Or.inl rfl, fun _ => ?_, fun z => absurd z (by decide)⟩, fun h => Or.inr (Or.inl ⟨rfl, b0.mp h, rfl, rfl, rfl, rfl, rfl, rfl, rfl, rfl, rfl, rfl, rfl⟩)⟩
    have hk : bt kp 0 = true := Bool.not_eq_false _ |>.mp (fun z => h (b0.mpr z))
    exact ⟨Ns, Np, v0, ⟨hN0 hk, h9, h8⟩, fun a1 a2 a3 a4 a5 a6 a7 a8 a9 a10 hN => Or.inr (Or.inr (Or.inr (Or.inl ⟨rfl, hk, rfl, hN⟩)))⟩
  · refine ⟨fun h => ⟨Or.inr rfl, fun z => absurd z (by decide), fun _ => ?_⟩, fun h => Or.inr (Or.inr (Or.inl ⟨rfl, b1.mp h, rfl, rfl, rfl, rfl, rfl, rfl, rfl, rfl, rfl, rfl, rfl⟩))⟩
    have hk : bt kp 1 = true := Bool.not_eq_false _ |>.mp (fun z => h (b1.mpr z))
    exact ⟨Ns, Np, v1, ⟨hN1 hk, h9, h8⟩, fun a1 a2 a3 a4 a5 a6 a7 a8 a9 a10 hN => Or.inr (Or.inr (Or.inr (Or.inr ⟨rfl, hk, rfl, hN⟩)))⟩
theorem k_X7_goBack (l : Launch) (G : Gt) (h0 n n1 n2 n3 n4 n5 n6 n7 i0 y y1 y2 y3 y4 y5 y6 y7 z z1 z2 z3 z4 z5 z6 z7 : Nat) (sz : Nat) (e0 : Nat) (t : Nat) (k : Nat) (j : Nat) (b0 : Nat) (s0 : Nat) (q : Nat) (g : Nat) (kp : Int32) (ht : Nat → Int32) (wm : Nat → Int32) (se : Nat → Int32) (cd : Nat → Int32) (sl : Nat → Int32) (od : Nat → Int32) (ow : Nat → Int32) (lo : Int32) (mi : Int32) (sd : Int32) (hty : Nat → Int32) (wmy : Nat → Int32) (sey : Nat → Int32) (cdy : Nat → Int32) (sly : Nat → Int32) (ody : Nat → Int32) (owy : Nat → Int32) (loy : Int32) (miy : Int32) (sdy : Int32) (htz : Nat → Int32) (wmz : Nat → Int32) (sez : Nat → Int32) (cdz : Nat → Int32) (slz : Nat → Int32) (odz : Nat → Int32) (owz : Nat → Int32) (loz : Int32) (miz : Int32) (sdz : Int32) (x : Int32) (Ns : Nat) (Np : Nat) (v0 : Nat → Int) (v1 : Nat → Int) (hp : (bt kp 0 = true → CN Ns Np v0 hty wmy sey cdy sly ody owy loy miy sdy) ∧ (bt kp 1 = true → CN Ns Np v1 htz wmz sez cdz slz odz owz loz miz sdz) ∧ Ns ≤ 9 ∧ Np ≤ 8) : MetI l yX7_goBack wsX7_goBack 2 51 G [.ref h0, .int x] [(h0, .inr (7, [.ref e0, .ref t, .ref k, .ref n, .ref j, .ref i0, .int kp, .ref b0, .ref s0, .ref q, .ref g])), (n, .inr (1, [.ref n1, .ref n2, .ref n3, .ref n4, .ref n5, .ref n6, .ref n7, .int lo, .int mi, .int sd])), aI G n1 9 ht, aI G n2 8 wm, aI G n3 8 se, aI G n4 8 cd, aI G n5 8 sl, aI G n6 8 od, aI G n7 72 ow, aN G i0 2 (fun k => if k = 0 then some y else some z), (y, .inr (1, [.ref y1, .ref y2, .ref y3, .ref y4, .ref y5, .ref y6, .ref y7, .int loy, .int miy, .int sdy])), aI G y1 9 hty, aI G y2 8 wmy, aI G y3 8 sey, aI G y4 8 cdy, aI G y5 8 sly, aI G y6 8 ody, aI G y7 72 owy, (z, .inr (1, [.ref z1, .ref z2, .ref z3, .ref z4, .ref z5, .ref z6, .ref z7, .int loz, .int miz, .int sdz])), aI G z1 9 htz, aI G z2 8 wmz, aI G z3 8 sez, aI G z4 8 cdz, aI G z5 8 slz, aI G z6 8 odz, aI G z7 72 owz] sz (fun (r : Int32) (u : (Nat → Int32) × (Nat → Int32) × (Nat → Int32) × (Nat → Int32) × (Nat → Int32) × (Nat → Int32) × (Nat → Int32) × (Int32) × (Int32) × (Int32)) => ((¬ (0 ≤ x.toInt ∧ x.toInt ≤ 1) ∧ r = -1000000001 ∧ u.1 = ht ∧ u.2.1 = wm ∧ u.2.2.1 = se ∧ u.2.2.2.1 = cd ∧ u.2.2.2.2.1 = sl ∧ u.2.2.2.2.2.1 = od ∧ u.2.2.2.2.2.2.1 = ow ∧ u.2.2.2.2.2.2.2.1 = lo ∧ u.2.2.2.2.2.2.2.2.1 = mi ∧ u.2.2.2.2.2.2.2.2.2 = sd) ∨ (x.toInt = 0 ∧ bt kp 0 = false ∧ r = -1000000003 ∧ u.1 = ht ∧ u.2.1 = wm ∧ u.2.2.1 = se ∧ u.2.2.2.1 = cd ∧ u.2.2.2.2.1 = sl ∧ u.2.2.2.2.2.1 = od ∧ u.2.2.2.2.2.2.1 = ow ∧ u.2.2.2.2.2.2.2.1 = lo ∧ u.2.2.2.2.2.2.2.2.1 = mi ∧ u.2.2.2.2.2.2.2.2.2 = sd) ∨ (x.toInt = 1 ∧ bt kp 1 = false ∧ r = -1000000003 ∧ u.1 = ht ∧ u.2.1 = wm ∧ u.2.2.1 = se ∧ u.2.2.2.1 = cd ∧ u.2.2.2.2.1 = sl ∧ u.2.2.2.2.2.1 = od ∧ u.2.2.2.2.2.2.1 = ow ∧ u.2.2.2.2.2.2.2.1 = lo ∧ u.2.2.2.2.2.2.2.2.1 = mi ∧ u.2.2.2.2.2.2.2.2.2 = sd) ∨ (x.toInt = 0 ∧ bt kp 0 = true ∧ r = 1 ∧ CN Ns Np v0 u.1 u.2.1 u.2.2.1 u.2.2.2.1 u.2.2.2.2.1 u.2.2.2.2.2.1 u.2.2.2.2.2.2.1 u.2.2.2.2.2.2.2.1 u.2.2.2.2.2.2.2.2.1 u.2.2.2.2.2.2.2.2.2) ∨ (x.toInt = 1 ∧ bt kp 1 = true ∧ r = 1 ∧ CN Ns Np v1 u.1 u.2.1 u.2.2.1 u.2.2.2.1 u.2.2.2.2.1 u.2.2.2.2.2.1 u.2.2.2.2.2.2.1 u.2.2.2.2.2.2.2.1 u.2.2.2.2.2.2.2.2.1 u.2.2.2.2.2.2.2.2.2))) (fun (u : (Nat → Int32) × (Nat → Int32) × (Nat → Int32) × (Nat → Int32) × (Nat → Int32) × (Nat → Int32) × (Nat → Int32) × (Int32) × (Int32) × (Int32)) => [(h0, .inr (7, [.ref e0, .ref t, .ref k, .ref n, .ref j, .ref i0, .int kp, .ref b0, .ref s0, .ref q, .ref g])), (n, .inr (1, [.ref n1, .ref n2, .ref n3, .ref n4, .ref n5, .ref n6, .ref n7, .int u.2.2.2.2.2.2.2.1, .int u.2.2.2.2.2.2.2.2.1, .int u.2.2.2.2.2.2.2.2.2])), aI G n1 9 u.1, aI G n2 8 u.2.1, aI G n3 8 u.2.2.1, aI G n4 8 u.2.2.2.1, aI G n5 8 u.2.2.2.2.1, aI G n6 8 u.2.2.2.2.2.1, aI G n7 72 u.2.2.2.2.2.2.1, aN G i0 2 (fun k => if k = 0 then some y else some z), (y, .inr (1, [.ref y1, .ref y2, .ref y3, .ref y4, .ref y5, .ref y6, .ref y7, .int loy, .int miy, .int sdy])), aI G y1 9 hty, aI G y2 8 wmy, aI G y3 8 sey, aI G y4 8 cdy, aI G y5 8 sly, aI G y6 8 ody, aI G y7 72 owy, (z, .inr (1, [.ref z1, .ref z2, .ref z3, .ref z4, .ref z5, .ref z6, .ref z7, .int loz, .int miz, .int sdz])), aI G z1 9 htz, aI G z2 8 wmz, aI G z3 8 sez, aI G z4 8 cdz, aI G z5 8 slz, aI G z6 8 odz, aI G z7 72 owz]) :=
  c_X7_goBack l G h0 n n1 n2 n3 n4 n5 n6 n7 i0 y y1 y2 y3 y4 y5 y6 y7 z z1 z2 z3 z4 z5 z6 z7 sz e0 t k j b0 s0 q g kp ht wm se cd sl od ow lo mi sd hty wmy sey cdy sly ody owy loy miy sdy htz wmz sez cdz slz odz owz loz miz sdz x Ns Np v0 v1 (v_X7_goBack l G h0 n n1 n2 n3 n4 n5 n6 n7 i0 y y1 y2 y3 y4 y5 y6 y7 z z1 z2 z3 z4 z5 z6 z7 sz e0 t k j b0 s0 q g kp ht wm se cd sl od ow lo mi sd hty wmy sey cdy sly ody owy loy miy sdy htz wmz sez cdz slz odz owz loz miz sdz x Ns Np v0 v1 hp)
