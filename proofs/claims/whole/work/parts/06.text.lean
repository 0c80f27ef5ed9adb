set_option maxHeartbeats 4000000 in
set_option maxRecDepth 100000 in
theorem c_J3_checkIndex_8e157 (l : Launch) (G : Gt) (sz : Nat) (x : Int32) (y : Int32) (oo : Option Nat) (hv : (x < 0 → False) ∧ (¬ (x < 0) → (x < y → (x : Int32) = x) ∧ (¬ (x < y) → False))) : MetI l yJ3_checkIndex_8e157 wsJ3_checkIndex_8e157 0 0 G [.int x, .int y, va_rf oo] [] sz (fun (r : Int32) (_ : Unit) => (r : Int32) = x) (fun (_ : Unit) => []) := by
  refine x_startI (cc := cJ3_checkIndex_8e157) (maxL := 3) (ret := (some .int)) (by decide) rfl (by cases oo <;> exact Nat.le_of_ble_eq_true rfl) ?_
  intro p e s m args below meth c A R Q ls hRf hRl hQ C hP hD hS hA hSS hl
  obtain ⟨hx, hb, hr, hml, hown, hts, hlocks, hKK⟩ := C
  have hown : s.vm.findClass RJ3 = some m.cls := hown
  have hl : lv_has ls 3 [(0, .int x), (1, .int y)] := by cases oo <;> exact lv_sub hl [0, 1] rfl
  refine lv_iload_n hx hb dJ3_checkIndex_8e157_0 rfl (lv_at hl 0 rfl) ?_
  refine lv_if_lt (tgt := 9) hx hb dJ3_checkIndex_8e157_1 (by decide) (fun hc_1 => ?_) (fun hc_1 => ?_)
  · have hv := hv.1 hc_1
    exact hv.elim
  · have hv := hv.2 hc_1
    refine lv_iload_n hx hb dJ3_checkIndex_8e157_4 rfl (lv_at hl 0 rfl) ?_
    refine lv_iload_n hx hb dJ3_checkIndex_8e157_5 rfl (lv_at hl 1 rfl) ?_
    refine lv_icmp_lt (tgt := 16) hx hb dJ3_checkIndex_8e157_6 (by decide) (fun hc_2 => ?_) (fun hc_2 => ?_)
    · have hv := hv.1 hc_2
      refine lv_iload_n hx hb dJ3_checkIndex_8e157_16 rfl (lv_at hl 0 rfl) ?_
      exact x_iret (v := x) () hQ hx hb hr hlocks hS dJ3_checkIndex_8e157_17 hv hP hD
    · have hv := hv.2 hc_2
      exact hv.elim
theorem k_J3_checkIndex_8e157 (l : Launch) (G : Gt) (sz : Nat) (x : Int32) (y : Int32) (oo : Option Nat) (hp : ¬ x < 0 ∧ x < y) : MetI l yJ3_checkIndex_8e157 wsJ3_checkIndex_8e157 0 0 G [.int x, .int y, va_rf oo] [] sz (fun (r : Int32) (_ : Unit) => (r : Int32) = x) (fun (_ : Unit) => []) :=
  c_J3_checkIndex_8e157 l G  sz x y oo (by
    simp_all)

set_option maxHeartbeats 4000000 in
set_option maxRecDepth 100000 in
theorem c_J0_checkIndex_df160 (l : Launch) (G : Gt) (sz : Nat) (x : Int32) (y : Int32) (hv : (¬ x < 0 ∧ x < y) ∧ (True)) : MetV l yJ0_checkIndex_df160 wsJ0_checkIndex_df160 1 22 G [.int x, .int y] [] sz (fun (_ : Unit) => True) (fun (_ : Unit) => []) := by
  refine x_startV (cc := cJ0_checkIndex_df160) (maxL := 2) (ret := none) (by decide) rfl (Nat.le_of_ble_eq_true rfl) ?_
  intro p e s m args below meth c A R Q ls hRf hRl hQ C hP hD hS hA hSS hl
  obtain ⟨hx, hb, hr, hml, hown, hts, hlocks, hKK⟩ := C
  have hown : s.vm.findClass RJ0 = some m.cls := hown
  have hl : lv_has ls 2 [(0, .int x), (1, .int y)] := hl
  have kl1053 := hts (.fieldLink RJ0 1053 "jdk/internal/util/Preconditions" "SIOOBE_FORMATTER" "Ljava/util/function/BiFunction;") (by decide +kernel)
  refine lv_iload_n hx hb dJ0_checkIndex_df160_0 rfl (lv_at hl 0 rfl) ?_
  refine lv_iload_n hx hb dJ0_checkIndex_df160_1 rfl (lv_at hl 1 rfl) ?_
  obtain ⟨oq, hz⟩ : ∃ o : Option Nat, va_Z "jdk/internal/util/Preconditions" "SIOOBE_FORMATTER" "Ljava/util/function/BiFunction;" (va_rf o) A s s.heap := hSS.2.2.2.elim (fun h => ⟨none, h⟩) (fun ⟨t, h⟩ => ⟨some t, h⟩)
  refine va_gets hx hb hz hS hown kl1053 (fun _ h9 => h9) dJ0_checkIndex_df160_2 ?_
  obtain ⟨hp, hv⟩ := hv
  refine x_calliR (x_runS (As := [.int x, .int y, va_rf oq]) (rest := []) (n := 3) ⟨hx, hb, hml, hown, hts⟩ (k_J3_checkIndex_8e157 l G  _ x y oq hp) gJ0_checkIndex_df160_J3_checkIndex_8e157 rfl (by decide +kernel) ⟨Nat.le_trans (Nat.le_of_ble_eq_true rfl) hRf, Nat.le_trans (Nat.le_of_ble_eq_true rfl) hRl⟩ hKK hSS hS hA hP hD [] (by decide) rfl rfl hl.1 rfl (Nat.le_of_ble_eq_true rfl) dJ0_checkIndex_df160_5) hP hD hS hA [] rfl (fun r_1 _ H locs hw hP hS => ?_)
  replace hw := hw.symm; subst hw
  refine lv_pop hx hb dJ0_checkIndex_df160_8 rfl ?_
  exact x_vret () hQ hx hb hr hlocks hS dJ0_checkIndex_df160_9 hv hP hD
theorem k_J0_checkIndex_df160 (l : Launch) (G : Gt) (sz : Nat) (x : Int32) (y : Int32) (hp : ¬ x < 0 ∧ x < y) : MetV l yJ0_checkIndex_df160 wsJ0_checkIndex_df160 1 22 G [.int x, .int y] [] sz (fun (_ : Unit) => True) (fun (_ : Unit) => []) :=
  c_J0_checkIndex_df160 l G  sz x y (by
    sorry)

set_option maxHeartbeats 4000000 in
set_option maxRecDepth 100000 in
theorem c_J1_charAt_3b067 (l : Launch) (G : Gt) (sz : Nat) (i_ : Nat) (x : Int32) (hi9 : i_ < 9) (hv : (¬ x < 0 ∧ x < (nI (stL.getD i_ 0))) ∧ ((True) → ((vp_in x (stL.getD i_ 0)) ∧ ((narrow .char (.int (((((stB.getD i_ []).getD x.toNatClampNeg 0) &&& 255).toUInt32 % 65536).toInt32)) = .int (((((stB.getD i_ []).getD x.toNatClampNeg 0) &&& 255).toUInt32 % 65536).toInt32)) ∧ (((((stB.getD i_ []).getD x.toNatClampNeg 0) &&& 255).toUInt32 % 65536).toInt32 : Int32) = ((stB.getD i_ []).getD x.toNatClampNeg 0 &&& 255))))) : MetI l yJ1_charAt_3b067 wsJ1_charAt_3b067 2 43 G [.ref (vS G i_), .int x] [] sz (fun (r : Int32) (_ : Unit) => (r : Int32) = ((stB.getD i_ []).getD x.toNatClampNeg 0 &&& 255)) (fun (_ : Unit) => []) := by
  refine x_startI (cc := cJ1_charAt_3b067) (maxL := 2) (ret := (some .char)) (by decide) rfl (Nat.le_of_ble_eq_true rfl) ?_
  intro p e s m args below meth c A R Q ls hRf hRl hQ C hP hD hS hA hSS hl
  obtain ⟨hx, hb, hr, hml, hown, hts, hlocks, hKK⟩ := C
  have hown : s.vm.findClass RJ1 = some m.cls := hown
  have hl : lv_has ls 2 [(0, .ref (vS G i_)), (1, .int x)] := hl
  have hi9 := hi9
  refine lv_iload_n hx hb dJ1_charAt_3b067_0 rfl (lv_at hl 1 rfl) ?_
  refine lv_aload_n hx hb dJ1_charAt_3b067_1 rfl (lv_at hl 0 rfl) ?_
  refine va_tlen hx hb (hSS.1.1 i_ hi9).2.2.2 hS rfl dJ1_charAt_3b067_2 ?_
  obtain ⟨hp, hv⟩ := hv
  refine x_callvR (x_runS (As := [.int x, .int (nI (stL.getD i_ 0))]) (rest := []) (n := 2) ⟨hx, hb, hml, hown, hts⟩ (k_J0_checkIndex_df160 l G  _ x (nI (stL.getD i_ 0)) hp) gJ1_charAt_3b067_J0_checkIndex_df160 rfl (by decide +kernel) ⟨Nat.le_trans (Nat.le_of_ble_eq_true rfl) hRf, Nat.le_trans (Nat.le_of_ble_eq_true rfl) hRl⟩ hKK hSS hS hA hP hD [] (by decide) rfl rfl hl.1 rfl (Nat.le_of_ble_eq_true rfl) dJ1_charAt_3b067_3) hP hD hS hA [] rfl (fun _ H locs hw hP hS => ?_)
  have hv := hv  hw
  refine lv_aload_n hx hb dJ1_charAt_3b067_6 rfl (lv_at hl 0 rfl) ?_
  refine lv_iload_n hx hb dJ1_charAt_3b067_7 rfl (lv_at hl 1 rfl) ?_
  obtain ⟨hin, hv⟩ := hv
  refine va_tb hx hb (hSS.1.1 i_ hi9).2.2.2 hS hin rfl dJ1_charAt_3b067_8 ?_
  refine lv_sipush (v := 255) hx hb dJ1_charAt_3b067_9 (by decide) ?_
  refine lv_iand hx hb dJ1_charAt_3b067_12 ?_
  refine lv_i2c hx hb dJ1_charAt_3b067_13 rfl ?_
  exact x_zret (v := ((((stB.getD i_ []).getD x.toNatClampNeg 0) &&& 255).toUInt32 % 65536).toInt32) () hQ hx hb hr hlocks hS dJ1_charAt_3b067_14 hv.1 hv.2 hP hD
theorem k_J1_charAt_3b067 (l : Launch) (G : Gt) (sz : Nat) (i_ : Nat) (x : Int32) (hi9 : i_ < 9) (hp : vp_in x (stL.getD i_ 0)) : MetI l yJ1_charAt_3b067 wsJ1_charAt_3b067 2 43 G [.ref (vS G i_), .int x] [] sz (fun (r : Int32) (_ : Unit) => (r : Int32) = ((stB.getD i_ []).getD x.toNatClampNeg 0 &&& 255)) (fun (_ : Unit) => []) :=
  c_J1_charAt_3b067 l G  sz i_ x hi9 (by
    sorry)

set_option maxHeartbeats 4000000 in
set_option maxRecDepth 100000 in
theorem c_J0_isLatin1_aae02 (l : Launch) (G : Gt) (sz : Nat) (i_ : Nat) (hi9 : i_ < 9) (hv : (1 : Int32) = 1) : MetI l yJ0_isLatin1_aae02 wsJ0_isLatin1_aae02 0 0 G [.ref (kS G i_)] [] sz (fun (r : Int32) (_ : Unit) => (r : Int32) = 1) (fun (_ : Unit) => []) := by
  refine x_startI (cc := cJ0_isLatin1_aae02) (maxL := 1) (ret := (some .boolean)) (by decide) rfl (Nat.le_of_ble_eq_true rfl) ?_
  intro p e s m args below meth c A R Q ls hRf hRl hQ C hP hD hS hA hSS hl
  obtain ⟨hx, hb, hr, hml, hown, hts, hlocks, hKK⟩ := C
  have hown : s.vm.findClass RJ0 = some m.cls := hown
  have hl : lv_has ls 1 [(0, .ref (kS G i_))] := hl
  have hi9 := hi9
  have kl15 := hts (.fieldLink RJ0 15 "java/lang/String" "coder" "B") (by decide +kernel)
  have kl38 := hts (.fieldLink RJ0 38 "java/lang/String" "COMPACT_STRINGS" "Z") (by decide +kernel)
  refine va_gets hx hb hSS.2.2.1 hS hown kl38 (fun _ h9 => h9) dJ0_isLatin1_aae02_0 ?_
  refine lv_if_eq (tgt := 17) hx hb dJ0_isLatin1_aae02_3 (by decide) (fun hc_1 => absurd hc_1 (by decide)) (fun hc_1 => ?_)
  refine lv_aload_n hx hb dJ0_isLatin1_aae02_6 rfl (lv_at hl 0 rfl) ?_
  refine vk_getf hx hb (hSS.1.1 i_ hi9).2.1 hS hown kl15 (fun _ h9 => h9) dJ0_isLatin1_aae02_7 ?_
  refine lv_if_ne (tgt := 17) hx hb dJ0_isLatin1_aae02_10 (by decide) (fun hc_2 => absurd hc_2 (by decide)) (fun hc_2 => ?_)
  refine lv_iconst (v := 1) hx hb dJ0_isLatin1_aae02_13 (by decide) ?_
  refine lv_goto (tgt := 18) hx hb dJ0_isLatin1_aae02_14 (by decide) ?_
  exact x_zret (v := 1) () hQ hx hb hr hlocks hS dJ0_isLatin1_aae02_18 rfl hv hP hD
theorem k_J0_isLatin1_aae02 (l : Launch) (G : Gt) (sz : Nat) (i_ : Nat) (hi9 : i_ < 9) : MetI l yJ0_isLatin1_aae02 wsJ0_isLatin1_aae02 0 0 G [.ref (kS G i_)] [] sz (fun (r : Int32) (_ : Unit) => (r : Int32) = 1) (fun (_ : Unit) => []) :=
  c_J0_isLatin1_aae02 l G  sz i_ hi9 (by
    rfl)

set_option maxHeartbeats 4000000 in
set_option maxRecDepth 100000 in
theorem c_J0_coder_7d493 (l : Launch) (G : Gt) (sz : Nat) (i_ : Nat) (hi9 : i_ < 9) (hv : (0 : Int32) = 0) : MetI l yJ0_coder_7d493 wsJ0_coder_7d493 0 0 G [.ref (kS G i_)] [] sz (fun (r : Int32) (_ : Unit) => (r : Int32) = 0) (fun (_ : Unit) => []) := by
  refine x_startI (cc := cJ0_coder_7d493) (maxL := 1) (ret := (some .byte)) (by decide) rfl (Nat.le_of_ble_eq_true rfl) ?_
  intro p e s m args below meth c A R Q ls hRf hRl hQ C hP hD hS hA hSS hl
  obtain ⟨hx, hb, hr, hml, hown, hts, hlocks, hKK⟩ := C
  have hown : s.vm.findClass RJ0 = some m.cls := hown
  have hl : lv_has ls 1 [(0, .ref (kS G i_))] := hl
  have hi9 := hi9
  have kl15 := hts (.fieldLink RJ0 15 "java/lang/String" "coder" "B") (by decide +kernel)
  have kl38 := hts (.fieldLink RJ0 38 "java/lang/String" "COMPACT_STRINGS" "Z") (by decide +kernel)
  refine va_gets hx hb hSS.2.2.1 hS hown kl38 (fun _ h9 => h9) dJ0_coder_7d493_0 ?_
  refine lv_if_eq (tgt := 13) hx hb dJ0_coder_7d493_3 (by decide) (fun hc_1 => absurd hc_1 (by decide)) (fun hc_1 => ?_)
  refine lv_aload_n hx hb dJ0_coder_7d493_6 rfl (lv_at hl 0 rfl) ?_
  refine vk_getf hx hb (hSS.1.1 i_ hi9).2.1 hS hown kl15 (fun _ h9 => h9) dJ0_coder_7d493_7 ?_
  refine lv_goto (tgt := 14) hx hb dJ0_coder_7d493_10 (by decide) ?_
  exact x_zret (v := 0) () hQ hx hb hr hlocks hS dJ0_coder_7d493_14 rfl hv hP hD
theorem k_J0_coder_7d493 (l : Launch) (G : Gt) (sz : Nat) (i_ : Nat) (hi9 : i_ < 9) : MetI l yJ0_coder_7d493 wsJ0_coder_7d493 0 0 G [.ref (kS G i_)] [] sz (fun (r : Int32) (_ : Unit) => (r : Int32) = 0) (fun (_ : Unit) => []) :=
  c_J0_coder_7d493 l G  sz i_ hi9 (by
    rfl)

set_option maxHeartbeats 4000000 in
set_option maxRecDepth 100000 in
theorem c_J0_length_8abf5 (l : Launch) (G : Gt) (sz : Nat) (i_ : Nat) (hi9 : i_ < 9) (hv : (((nI (stL.getD i_ 0)) >>> (0 &&& 31)) : Int32) = nI (stL.getD i_ 0)) : MetI l yJ0_length_8abf5 wsJ0_length_8abf5 1 20 G [.ref (kS G i_)] [] sz (fun (r : Int32) (_ : Unit) => (r : Int32) = nI (stL.getD i_ 0)) (fun (_ : Unit) => []) := by
  refine x_startI (cc := cJ0_length_8abf5) (maxL := 1) (ret := (some .int)) (by decide) rfl (Nat.le_of_ble_eq_true rfl) ?_
  intro p e s m args below meth c A R Q ls hRf hRl hQ C hP hD hS hA hSS hl
  obtain ⟨hx, hb, hr, hml, hown, hts, hlocks, hKK⟩ := C
  have hown : s.vm.findClass RJ0 = some m.cls := hown
  have hl : lv_has ls 1 [(0, .ref (kS G i_))] := hl
  have hi9 := hi9
  have kl9 := hts (.fieldLink RJ0 9 "java/lang/String" "value" "[B") (by decide +kernel)
  refine lv_aload_n hx hb dJ0_length_8abf5_0 rfl (lv_at hl 0 rfl) ?_
  refine vk_getf hx hb (hSS.1.1 i_ hi9).2.2.1 hS hown kl9 (fun _ h9 => h9) dJ0_length_8abf5_1 ?_
  refine va_tlen hx hb (hSS.1.1 i_ hi9).2.2.2 hS rfl dJ0_length_8abf5_4 ?_
  refine lv_aload_n hx hb dJ0_length_8abf5_5 rfl (lv_at hl 0 rfl) ?_
  refine x_calliR (x_runVK (i := i_) (As := []) (rest := [.int (nI (stL.getD i_ 0))]) (n := 0) ⟨hx, hb, hml, hown, hts⟩ (k_J0_coder_7d493 l G  _ i_ hi9) gJ0_length_8abf5_J0_coder_7d493 rfl (by decide +kernel) ⟨Nat.le_trans (Nat.le_of_ble_eq_true rfl) hRf, Nat.le_trans (Nat.le_of_ble_eq_true rfl) hRl⟩ hKK hSS hS hA hP hD hi9 [] (by decide) rfl rfl hl.1 rfl (Nat.le_of_ble_eq_true rfl) dJ0_length_8abf5_6) hP hD hS hA [] rfl (fun r_1 _ H locs hw hP hS => ?_)
  replace hw := hw.symm; subst hw
  refine lv_ishr hx hb dJ0_length_8abf5_9 ?_
  exact x_iret (v := ((nI (stL.getD i_ 0)) >>> (0 &&& 31))) () hQ hx hb hr hlocks hS dJ0_length_8abf5_10 hv hP hD
theorem k_J0_length_8abf5 (l : Launch) (G : Gt) (sz : Nat) (i_ : Nat) (hi9 : i_ < 9) : MetI l yJ0_length_8abf5 wsJ0_length_8abf5 1 20 G [.ref (kS G i_)] [] sz (fun (r : Int32) (_ : Unit) => (r : Int32) = nI (stL.getD i_ 0)) (fun (_ : Unit) => []) :=
  c_J0_length_8abf5 l G  sz i_ hi9 (by
    sorry)

set_option maxHeartbeats 4000000 in
set_option maxRecDepth 100000 in
theorem c_J0_charAt_5068e (l : Launch) (G : Gt) (sz : Nat) (i_ : Nat) (x : Int32) (hi9 : i_ < 9) (hv : (vp_in x (stL.getD i_ 0)) ∧ ((narrow .char (.int ((stB.getD i_ []).getD x.toNatClampNeg 0 &&& 255)) = .int ((stB.getD i_ []).getD x.toNatClampNeg 0 &&& 255)) ∧ (((stB.getD i_ []).getD x.toNatClampNeg 0 &&& 255) : Int32) = ((stB.getD i_ []).getD x.toNatClampNeg 0 &&& 255))) : MetI l yJ0_charAt_5068e wsJ0_charAt_5068e 3 64 G [.ref (kS G i_), .int x] [] sz (fun (r : Int32) (_ : Unit) => (r : Int32) = ((stB.getD i_ []).getD x.toNatClampNeg 0 &&& 255)) (fun (_ : Unit) => []) := by
  refine x_startI (cc := cJ0_charAt_5068e) (maxL := 2) (ret := (some .char)) (by decide) rfl (Nat.le_of_ble_eq_true rfl) ?_
  intro p e s m args below meth c A R Q ls hRf hRl hQ C hP hD hS hA hSS hl
  obtain ⟨hx, hb, hr, hml, hown, hts, hlocks, hKK⟩ := C
  have hown : s.vm.findClass RJ0 = some m.cls := hown
  have hl : lv_has ls 2 [(0, .ref (kS G i_)), (1, .int x)] := hl
  have hi9 := hi9
  have kl9 := hts (.fieldLink RJ0 9 "java/lang/String" "value" "[B") (by decide +kernel)
  refine lv_aload_n hx hb dJ0_charAt_5068e_0 rfl (lv_at hl 0 rfl) ?_
  refine x_calliR (x_runVK (i := i_) (As := []) (rest := []) (n := 0) ⟨hx, hb, hml, hown, hts⟩ (k_J0_isLatin1_aae02 l G  _ i_ hi9) gJ0_charAt_5068e_J0_isLatin1_aae02 rfl (by decide +kernel) ⟨Nat.le_trans (Nat.le_of_ble_eq_true rfl) hRf, Nat.le_trans (Nat.le_of_ble_eq_true rfl) hRl⟩ hKK hSS hS hA hP hD hi9 [] (by decide) rfl rfl hl.1 rfl (Nat.le_of_ble_eq_true rfl) dJ0_charAt_5068e_1) hP hD hS hA [] rfl (fun r_1 _ H locs hw hP hS => ?_)
  replace hw := hw.symm; subst hw
  refine lv_if_eq (tgt := 16) hx hb dJ0_charAt_5068e_4 (by decide) (fun hc_2 => absurd hc_2 (by decide)) (fun hc_2 => ?_)
  refine lv_aload_n hx hb dJ0_charAt_5068e_7 rfl (lv_at hl 0 rfl) ?_
  refine vk_getf hx hb (hSS.1.1 i_ hi9).2.2.1 hS hown kl9 (fun _ h9 => h9) dJ0_charAt_5068e_8 ?_
  refine lv_iload_n hx hb dJ0_charAt_5068e_11 rfl (lv_at hl 1 rfl) ?_
  obtain ⟨hp, hv⟩ := hv
  refine x_calliR (x_runS (As := [.ref (vS G i_), .int x]) (rest := []) (n := 2) ⟨hx, hb, hml, hown, hts⟩ (k_J1_charAt_3b067 l G  _ i_ x hi9 hp) gJ0_charAt_5068e_J1_charAt_3b067 rfl (by decide +kernel) ⟨Nat.le_trans (Nat.le_of_ble_eq_true rfl) hRf, Nat.le_trans (Nat.le_of_ble_eq_true rfl) hRl⟩ hKK hSS hS hA hP hD [] (by decide) rfl rfl hl.1 rfl (Nat.le_of_ble_eq_true rfl) dJ0_charAt_5068e_12) hP hD hS hA [] rfl (fun r_3 _ H locs hw hP hS => ?_)
  replace hw := hw.symm; subst hw
  exact x_zret (v := ((stB.getD i_ []).getD x.toNatClampNeg 0 &&& 255)) () hQ hx hb hr hlocks hS dJ0_charAt_5068e_15 hv.1 hv.2 hP hD
theorem k_J0_charAt_5068e (l : Launch) (G : Gt) (sz : Nat) (i_ : Nat) (x : Int32) (hi9 : i_ < 9) (hp : vp_in x (stL.getD i_ 0)) : MetI l yJ0_charAt_5068e wsJ0_charAt_5068e 3 64 G [.ref (kS G i_), .int x] [] sz (fun (r : Int32) (_ : Unit) => (r : Int32) = ((stB.getD i_ []).getD x.toNatClampNeg 0 &&& 255)) (fun (_ : Unit) => []) :=
  c_J0_charAt_5068e l G  sz i_ x hi9 (by
    sorry)

set_option maxHeartbeats 4000000 in
set_option maxRecDepth 100000 in
theorem c_X5_hasRoomFor (l : Launch) (G : Gt) (e0 e01 : Nat) (sz : Nat) (bt : Nat → Int32) (xl : Int32) (xf : Int32) (xg : Int32) (xa : Int32) (xt : Int32) (xr : Int32) (xn : Int32) (x : Int32) (hv : (400 < (xl + x) → True) ∧ (¬ (400 < (xl + x)) → True)) : MetI l yX5_hasRoomFor wsX5_hasRoomFor 0 0 G [.ref e0, .int x] [(e0, .inr (5, [.ref e01, .int xl, .int xf, .int xg, .int xa, .int xt, .int xr, .int xn])), aB G e01 400 bt] sz (fun (r : Int32) (_ : Unit) => True) (fun (_ : Unit) => [(e0, .inr (5, [.ref e01, .int xl, .int xf, .int xg, .int xa, .int xt, .int xr, .int xn])), aB G e01 400 bt]) := by
  refine x_startI (cc := cX5_hasRoomFor) (maxL := 2) (ret := (some .boolean)) (by decide) rfl (Nat.le_of_ble_eq_true rfl) ?_
  intro p e s m args below meth c A R Q ls hRf hRl hQ C hP hD hS hA hSS hl
  obtain ⟨hx, hb, hr, hml, hown, hts, hlocks, hKK⟩ := C
  have hown : s.vm.findClass RX5 = some m.cls := hown
  have hl : lv_has ls 2 [(0, .ref e0), (1, .int x)] := hl
  have hinX5 : ∀ w ∈ u_ws RX5 TX5 8, w ∈ wsX5_hasRoomFor := by decide +kernel
  have kl19 := hts (.fieldLink RX5 19 "WarmStones$Text" "length" "I") (by decide +kernel)
  refine lv_aload_n hx hb dX5_hasRoomFor_0 rfl (lv_at hl 0 rfl) ?_
  refine va_get (D := G.1) (ci := 5) (v := .int xl) (C := RX5) (T := TX5) (N := 8) hx hb hts hinX5 hown hKK.1 hP 0 rfl rfl 1 (by decide) kl19 (fun _ h9 => h9) rfl dX5_hasRoomFor_1 ?_
  refine lv_iload_n hx hb dX5_hasRoomFor_4 rfl (lv_at hl 1 rfl) ?_
  refine lv_iadd hx hb dX5_hasRoomFor_5 ?_
  refine lv_sipush (v := 400) hx hb dX5_hasRoomFor_6 (by decide) ?_
  refine lv_icmp_gt (tgt := 16) hx hb dX5_hasRoomFor_9 (by decide) (fun hc_1 => ?_) (fun hc_1 => ?_)
  · have hv := hv.1 hc_1
    refine lv_iconst (v := 0) hx hb dX5_hasRoomFor_16 (by decide) ?_
    exact x_zret (v := 0) () hQ hx hb hr hlocks hS dX5_hasRoomFor_17 rfl hv hP hD
  · have hv := hv.2 hc_1
    refine lv_iconst (v := 1) hx hb dX5_hasRoomFor_12 (by decide) ?_
    refine lv_goto (tgt := 17) hx hb dX5_hasRoomFor_13 (by decide) ?_
    exact x_zret (v := 1) () hQ hx hb hr hlocks hS dX5_hasRoomFor_17 rfl hv hP hD
theorem k_X5_hasRoomFor (l : Launch) (G : Gt) (e0 e01 : Nat) (sz : Nat) (bt : Nat → Int32) (xl : Int32) (xf : Int32) (xg : Int32) (xa : Int32) (xt : Int32) (xr : Int32) (xn : Int32) (x : Int32) (hp : True) : MetI l yX5_hasRoomFor wsX5_hasRoomFor 0 0 G [.ref e0, .int x] [(e0, .inr (5, [.ref e01, .int xl, .int xf, .int xg, .int xa, .int xt, .int xr, .int xn])), aB G e01 400 bt] sz (fun (r : Int32) (_ : Unit) => True) (fun (_ : Unit) => [(e0, .inr (5, [.ref e01, .int xl, .int xf, .int xg, .int xa, .int xt, .int xr, .int xn])), aB G e01 400 bt]) :=
  c_X5_hasRoomFor l G e0 e01 sz bt xl xf xg xa xt xr xn x (by
    sorry)

set_option maxHeartbeats 4000000 in
set_option maxRecDepth 100000 in
theorem c_X5_append (l : Launch) (G : Gt) (e0 e01 : Nat) (sz : Nat) (bt : Nat → Int32) (xl : Int32) (xf : Int32) (xg : Int32) (xa : Int32) (xt : Int32) (xr : Int32) (xn : Int32) (x : Int32) (y : Int64) (hv : ∃ (I5_4 : (Nat → Int32) → Int32 → Int32 → Prop) (μ5_5 : (Nat → Int32) → Int32 → Int32 → Nat), I5_4 bt xl (x - 1) ∧ (∀ (fe01_1 : (Nat → Int32)) (ge01_2 : Int32) (x4_3 : Int32), I5_4 fe01_1 ge01_2 x4_3 → (x4_3 < 0 → True) ∧ (¬ (x4_3 < 0) → (400 ≤ ge01_2 → True) ∧ (¬ (400 ≤ ge01_2) → (vp_in ge01_2 400) ∧ (I5_4 (upd fe01_1 ge01_2.toNatClampNeg (vp_nar .byte (((((y).toUInt64 >>> (((8 * x4_3) : Int32).toInt64.toUInt64 &&& Int64.toUInt64 63)).toInt64).toInt32).toInt8.toInt32))) (ge01_2 + 1) (x4_3 + (-1)) ∧ μ5_5 (upd fe01_1 ge01_2.toNatClampNeg (vp_nar .byte (((((y).toUInt64 >>> (((8 * x4_3) : Int32).toInt64.toUInt64 &&& Int64.toUInt64 63)).toInt64).toInt32).toInt8.toInt32))) (ge01_2 + 1) (x4_3 + (-1)) < μ5_5 fe01_1 ge01_2 x4_3))))) : MetV l yX5_append wsX5_append 0 0 G [.ref e0, .int x, .long y] [(e0, .inr (5, [.ref e01, .int xl, .int xf, .int xg, .int xa, .int xt, .int xr, .int xn])), aB G e01 400 bt] sz (fun (u : (Nat → Int32) × (Int32)) => True) (fun (u : (Nat → Int32) × (Int32)) => [(e0, .inr (5, [.ref e01, .int u.2, .int xf, .int xg, .int xa, .int xt, .int xr, .int xn])), aB G e01 400 u.1]) := by
  refine x_startV (cc := cX5_append) (maxL := 5) (ret := none) (by decide) rfl (Nat.le_of_ble_eq_true rfl) ?_
  intro p e s m args below meth c A R Q ls hRf hRl hQ C hP hD hS hA hSS hl
  obtain ⟨hx, hb, hr, hml, hown, hts, hlocks, hKK⟩ := C
  have hown : s.vm.findClass RX5 = some m.cls := hown
  have hl : lv_has ls 5 [(0, .ref e0), (1, .int x), (2, .long y)] := hl
  have hinX5 : ∀ w ∈ u_ws RX5 TX5 8, w ∈ wsX5_append := by decide +kernel
  have kl19 := hts (.fieldLink RX5 19 "WarmStones$Text" "length" "I") (by decide +kernel)
  have kl9 := hts (.fieldLink RX5 9 "WarmStones$Text" "bytes" "[B") (by decide +kernel)
  refine lv_iload_n hx hb dX5_append_0 rfl (lv_at hl 1 rfl) ?_
  refine lv_iconst (v := 1) hx hb dX5_append_1 (by decide) ?_
  refine lv_isub hx hb dX5_append_2 ?_
  refine lv_istore (lv' := [(4, .int (x - 1)), (0, .ref e0), (1, .int x), (2, .long y)]) hx hb dX5_append_3 hl (by decide) rfl (fun ls hl => ?_)
  obtain ⟨I5_4, μ5_5, hi0, hs_10⟩ := hv
  have Lm_12 : ∀ (n_11 : Nat) (fe01_1 : (Nat → Int32)) (ge01_2 : Int32) (x4_3 : Int32) (H : Heap) (locs : List Loc) (ls : Array Slot), μ5_5 fe01_1 ge01_2 x4_3 < n_11 → I5_4 fe01_1 ge01_2 x4_3 → va_P G.1 vwCl [(e0, .inr (5, [.ref e01, .int ge01_2, .int xf, .int xg, .int xa, .int xt, .int xr, .int xn])), aB G e01 400 fe01_1] H → va_D A [(e0, .inr (5, [.ref e01, .int ge01_2, .int xf, .int xg, .int xa, .int xt, .int xr, .int xn])), aB G e01 400 fe01_1] → va_S A s.heap H locs → lv_has ls 5 [(4, .int x4_3), (0, .ref e0), (1, .int x), (2, .long y)] → W p l e R s m args below meth c H locs 0 0 Q (F0 m 5 ls []) := by
    intro n_11
    induction n_11 with
    | zero => intro fe01_1 ge01_2 x4_3 H locs ls hm; exact absurd hm (Nat.not_lt_zero _)
    | succ n_11 ih_6 =>
      intro fe01_1 ge01_2 x4_3 H locs ls hI_7 hi hP hD hS hl
      have hv := hs_10 fe01_1 ge01_2 x4_3 hi
      refine lv_iload hx hb dX5_append_5 (lv_at hl 0 rfl) ?_
      refine lv_if_lt (tgt := 54) hx hb dX5_append_7 (by decide) (fun hc_8 => ?_) (fun hc_8 => ?_)
      · have hv := hv.1 hc_8
        exact x_vret (fe01_1, ge01_2) hQ hx hb hr hlocks hS dX5_append_54 hv hP hD
      · have hv := hv.2 hc_8
        refine lv_aload_n hx hb dX5_append_10 rfl (lv_at hl 1 rfl) ?_
        refine va_get (D := G.1) (ci := 5) (v := .int ge01_2) (C := RX5) (T := TX5) (N := 8) hx hb hts hinX5 hown hKK.1 hP 0 rfl rfl 1 (by decide) kl19 (fun _ h9 => h9) rfl dX5_append_11 ?_
        refine lv_sipush (v := 400) hx hb dX5_append_14 (by decide) ?_
        refine lv_icmp_ge (tgt := 54) hx hb dX5_append_17 (by decide) (fun hc_9 => ?_) (fun hc_9 => ?_)
        · have hv := hv.1 hc_9
          exact x_vret (fe01_1, ge01_2) hQ hx hb hr hlocks hS dX5_append_54 hv hP hD
        · have hv := hv.2 hc_9
          refine lv_aload_n hx hb dX5_append_20 rfl (lv_at hl 1 rfl) ?_
          refine va_get (D := G.1) (ci := 5) (v := .ref e01) (C := RX5) (T := TX5) (N := 8) hx hb hts hinX5 hown hKK.1 hP 0 rfl rfl 0 (by decide) kl9 (fun _ h9 => h9) rfl dX5_append_21 ?_
          refine lv_aload_n hx hb dX5_append_24 rfl (lv_at hl 1 rfl) ?_
          refine va_get (D := G.1) (ci := 5) (v := .int ge01_2) (C := RX5) (T := TX5) (N := 8) hx hb hts hinX5 hown hKK.1 hP 0 rfl rfl 1 (by decide) kl19 (fun _ h9 => h9) rfl dX5_append_25 ?_
          refine lv_lload_n hx hb dX5_append_28 rfl (lv_at hl 3 rfl) ?_
          refine lv_bipush (v := 8) hx hb dX5_append_29 (by decide) ?_
          refine lv_iload hx hb dX5_append_31 (lv_at hl 0 rfl) ?_
          refine lv_imul hx hb dX5_append_33 ?_
          refine lv_lushr hx hb dX5_append_34 rfl ?_
          refine lv_l2i hx hb dX5_append_35 rfl ?_
          refine lv_i2b hx hb dX5_append_36 rfl ?_
          obtain ⟨hin, hv⟩ := hv
          refine va_bast hx hb hKK.1 hP hD hS 1 1 rfl rfl hin dX5_append_37 (fun H locs hP hD hS => ?_)
          have hP : va_P G.1 vwCl [(e0, .inr (5, [.ref e01, .int ge01_2, .int xf, .int xg, .int xa, .int xt, .int xr, .int xn])), aB G e01 400 (upd fe01_1 ge01_2.toNatClampNeg (vp_nar .byte (((((y).toUInt64 >>> (((8 * x4_3) : Int32).toInt64.toUInt64 &&& Int64.toUInt64 63)).toInt64).toInt32).toInt8.toInt32)))] H := hP
          have hD : va_D A [(e0, .inr (5, [.ref e01, .int ge01_2, .int xf, .int xg, .int xa, .int xt, .int xr, .int xn])), aB G e01 400 (upd fe01_1 ge01_2.toNatClampNeg (vp_nar .byte (((((y).toUInt64 >>> (((8 * x4_3) : Int32).toInt64.toUInt64 &&& Int64.toUInt64 63)).toInt64).toInt32).toInt8.toInt32)))] := hD
          refine lv_aload_n hx hb dX5_append_38 rfl (lv_at hl 1 rfl) ?_
          refine lv_dup hx hb dX5_append_39 rfl ?_
          refine va_get (D := G.1) (ci := 5) (v := .int ge01_2) (C := RX5) (T := TX5) (N := 8) hx hb hts hinX5 hown hKK.1 hP 0 rfl rfl 1 (by decide) kl19 (fun _ h9 => h9) rfl dX5_append_40 ?_
          refine lv_iconst (v := 1) hx hb dX5_append_43 (by decide) ?_
          refine lv_iadd hx hb dX5_append_44 ?_
          refine va_put (D := G.1) (ci := 5) (v := .int (ge01_2 + 1)) (ty := .int) (C := RX5) (T := TX5) (N := 8) hx hb hts hinX5 tyX5 tyX5_ok nmX5 hown hKK.1 hP hD hS 0 rfl rfl 1 (by decide) kl19 (fun _ h9 => h9) rfl (by decide +kernel) rfl rfl (Nat.le_of_ble_eq_true rfl) dX5_append_45 (fun H locs hP hD hS => ?_)
          have hP : va_P G.1 vwCl [(e0, .inr (5, [.ref e01, .int (ge01_2 + 1), .int xf, .int xg, .int xa, .int xt, .int xr, .int xn])), aB G e01 400 (upd fe01_1 ge01_2.toNatClampNeg (vp_nar .byte (((((y).toUInt64 >>> (((8 * x4_3) : Int32).toInt64.toUInt64 &&& Int64.toUInt64 63)).toInt64).toInt32).toInt8.toInt32)))] H := hP
          have hD : va_D A [(e0, .inr (5, [.ref e01, .int (ge01_2 + 1), .int xf, .int xg, .int xa, .int xt, .int xr, .int xn])), aB G e01 400 (upd fe01_1 ge01_2.toNatClampNeg (vp_nar .byte (((((y).toUInt64 >>> (((8 * x4_3) : Int32).toInt64.toUInt64 &&& Int64.toUInt64 63)).toInt64).toInt32).toInt8.toInt32)))] := hD
          refine lv_iinc (v := (x4_3 + (-1))) (lv' := [(4, .int (x4_3 + (-1))), (0, .ref e0), (1, .int x), (2, .long y)]) hx hb dX5_append_48 hl (k := 0) rfl rfl (by decide) rfl (fun ls hl => ?_)
          refine lv_goto (tgt := 5) hx hb dX5_append_51 (by decide) ?_
          exact ih_6 _ _ _ _ _ _ (Nat.lt_of_lt_of_le hv.2 (Nat.le_of_lt_succ hI_7)) hv.1 hP hD hS hl
  exact Lm_12 _ _ _ _ _ _ _ (Nat.lt_succ_self _) hi0 hP hD hS hl
theorem k_X5_append (l : Launch) (G : Gt) (e0 e01 : Nat) (sz : Nat) (bt : Nat → Int32) (xl : Int32) (xf : Int32) (xg : Int32) (xa : Int32) (xt : Int32) (xr : Int32) (xn : Int32) (x : Int32) (y : Int64) (hp : True) : MetV l yX5_append wsX5_append 0 0 G [.ref e0, .int x, .long y] [(e0, .inr (5, [.ref e01, .int xl, .int xf, .int xg, .int xa, .int xt, .int xr, .int xn])), aB G e01 400 bt] sz (fun (u : (Nat → Int32) × (Int32)) => True) (fun (u : (Nat → Int32) × (Int32)) => [(e0, .inr (5, [.ref e01, .int u.2, .int xf, .int xg, .int xa, .int xt, .int xr, .int xn])), aB G e01 400 u.1]) :=
  c_X5_append l G e0 e01 sz bt xl xf xg xa xt xr xn x y (by
    sorry)

set_option maxHeartbeats 4000000 in
set_option maxRecDepth 100000 in
theorem c_X5_skipBlanks (l : Launch) (G : Gt) (e0 e01 : Nat) (sz : Nat) (bt : Nat → Int32) (xl : Int32) (xf : Int32) (xg : Int32) (xa : Int32) (xt : Int32) (xr : Int32) (xn : Int32) (hv : ∃ (I0_2 : Int32 → Prop) (μ0_3 : Int32 → Nat), I0_2 xa ∧ (∀ (ge04_1 : Int32), I0_2 ge04_1 → (xl ≤ ge04_1 → True) ∧ (¬ (xl ≤ ge04_1) → (vp_in ge04_1 400) ∧ ((¬ (bt ge04_1.toNatClampNeg) = 32 → True) ∧ ((bt ge04_1.toNatClampNeg) = 32 → I0_2 (ge04_1 + 1) ∧ μ0_3 (ge04_1 + 1) < μ0_3 ge04_1))))) : MetV l yX5_skipBlanks wsX5_skipBlanks 0 0 G [.ref e0] [(e0, .inr (5, [.ref e01, .int xl, .int xf, .int xg, .int xa, .int xt, .int xr, .int xn])), aB G e01 400 bt] sz (fun (u : (Int32)) => True) (fun (u : (Int32)) => [(e0, .inr (5, [.ref e01, .int xl, .int xf, .int xg, .int u, .int xt, .int xr, .int xn])), aB G e01 400 bt]) := by
  refine x_startV (cc := cX5_skipBlanks) (maxL := 1) (ret := none) (by decide) rfl (Nat.le_of_ble_eq_true rfl) ?_
  intro p e s m args below meth c A R Q ls hRf hRl hQ C hP hD hS hA hSS hl
  obtain ⟨hx, hb, hr, hml, hown, hts, hlocks, hKK⟩ := C
  have hown : s.vm.findClass RX5 = some m.cls := hown
  have hl : lv_has ls 1 [(0, .ref e0)] := hl
  have hinX5 : ∀ w ∈ u_ws RX5 TX5 8, w ∈ wsX5_skipBlanks := by decide +kernel
  have kl19 := hts (.fieldLink RX5 19 "WarmStones$Text" "length" "I") (by decide +kernel)
  have kl22 := hts (.fieldLink RX5 22 "WarmStones$Text" "at" "I") (by decide +kernel)
  have kl9 := hts (.fieldLink RX5 9 "WarmStones$Text" "bytes" "[B") (by decide +kernel)
  obtain ⟨I0_2, μ0_3, hi0, hs_8⟩ := hv
  have Lm_10 : ∀ (n_9 : Nat) (ge04_1 : Int32) (H : Heap) (locs : List Loc) (ls : Array Slot), μ0_3 ge04_1 < n_9 → I0_2 ge04_1 → va_P G.1 vwCl [(e0, .inr (5, [.ref e01, .int xl, .int xf, .int xg, .int ge04_1, .int xt, .int xr, .int xn])), aB G e01 400 bt] H → va_D A [(e0, .inr (5, [.ref e01, .int xl, .int xf, .int xg, .int ge04_1, .int xt, .int xr, .int xn])), aB G e01 400 bt] → va_S A s.heap H locs → lv_has ls 1 [(0, .ref e0)] → W p l e R s m args below meth c H locs 0 0 Q (F0 m 0 ls []) := by
    intro n_9
    induction n_9 with
    | zero => intro ge04_1 H locs ls hm; exact absurd hm (Nat.not_lt_zero _)
    | succ n_9 ih_4 =>
      intro ge04_1 H locs ls hI_5 hi hP hD hS hl
      have hv := hs_8 ge04_1 hi
      refine lv_aload_n hx hb dX5_skipBlanks_0 rfl (lv_at hl 0 rfl) ?_
      refine va_get (D := G.1) (ci := 5) (v := .int ge04_1) (C := RX5) (T := TX5) (N := 8) hx hb hts hinX5 hown hKK.1 hP 0 rfl rfl 4 (by decide) kl22 (fun _ h9 => h9) rfl dX5_skipBlanks_1 ?_
      refine lv_aload_n hx hb dX5_skipBlanks_4 rfl (lv_at hl 0 rfl) ?_
      refine va_get (D := G.1) (ci := 5) (v := .int xl) (C := RX5) (T := TX5) (N := 8) hx hb hts hinX5 hown hKK.1 hP 0 rfl rfl 1 (by decide) kl19 (fun _ h9 => h9) rfl dX5_skipBlanks_5 ?_
      refine lv_icmp_ge (tgt := 38) hx hb dX5_skipBlanks_8 (by decide) (fun hc_6 => ?_) (fun hc_6 => ?_)
      · have hv := hv.1 hc_6
        exact x_vret ge04_1 hQ hx hb hr hlocks hS dX5_skipBlanks_38 hv hP hD
      · have hv := hv.2 hc_6
        refine lv_aload_n hx hb dX5_skipBlanks_11 rfl (lv_at hl 0 rfl) ?_
        refine va_get (D := G.1) (ci := 5) (v := .ref e01) (C := RX5) (T := TX5) (N := 8) hx hb hts hinX5 hown hKK.1 hP 0 rfl rfl 0 (by decide) kl9 (fun _ h9 => h9) rfl dX5_skipBlanks_12 ?_
        refine lv_aload_n hx hb dX5_skipBlanks_15 rfl (lv_at hl 0 rfl) ?_
        refine va_get (D := G.1) (ci := 5) (v := .int ge04_1) (C := RX5) (T := TX5) (N := 8) hx hb hts hinX5 hown hKK.1 hP 0 rfl rfl 4 (by decide) kl22 (fun _ h9 => h9) rfl dX5_skipBlanks_16 ?_
        obtain ⟨hin, hv⟩ := hv
        refine va_bald hx hb hKK.1 hP 1 1 rfl rfl hin dX5_skipBlanks_19 ?_
        refine lv_bipush (v := 32) hx hb dX5_skipBlanks_20 (by decide) ?_
        refine lv_icmp_ne (tgt := 38) hx hb dX5_skipBlanks_22 (by decide) (fun hc_7 => ?_) (fun hc_7 => ?_)
        · have hv := hv.1 hc_7
          exact x_vret ge04_1 hQ hx hb hr hlocks hS dX5_skipBlanks_38 hv hP hD
        · have hv := hv.2 hc_7
          refine lv_aload_n hx hb dX5_skipBlanks_25 rfl (lv_at hl 0 rfl) ?_
          refine lv_dup hx hb dX5_skipBlanks_26 rfl ?_
          refine va_get (D := G.1) (ci := 5) (v := .int ge04_1) (C := RX5) (T := TX5) (N := 8) hx hb hts hinX5 hown hKK.1 hP 0 rfl rfl 4 (by decide) kl22 (fun _ h9 => h9) rfl dX5_skipBlanks_27 ?_
          refine lv_iconst (v := 1) hx hb dX5_skipBlanks_30 (by decide) ?_
          refine lv_iadd hx hb dX5_skipBlanks_31 ?_
          refine va_put (D := G.1) (ci := 5) (v := .int (ge04_1 + 1)) (ty := .int) (C := RX5) (T := TX5) (N := 8) hx hb hts hinX5 tyX5 tyX5_ok nmX5 hown hKK.1 hP hD hS 0 rfl rfl 4 (by decide) kl22 (fun _ h9 => h9) rfl (by decide +kernel) rfl rfl (Nat.le_of_ble_eq_true rfl) dX5_skipBlanks_32 (fun H locs hP hD hS => ?_)
          have hP : va_P G.1 vwCl [(e0, .inr (5, [.ref e01, .int xl, .int xf, .int xg, .int (ge04_1 + 1), .int xt, .int xr, .int xn])), aB G e01 400 bt] H := hP
          have hD : va_D A [(e0, .inr (5, [.ref e01, .int xl, .int xf, .int xg, .int (ge04_1 + 1), .int xt, .int xr, .int xn])), aB G e01 400 bt] := hD
          refine lv_goto (tgt := 0) hx hb dX5_skipBlanks_35 (by decide) ?_
          exact ih_4 _ _ _ _ (Nat.lt_of_lt_of_le hv.2 (Nat.le_of_lt_succ hI_5)) hv.1 hP hD hS hl
  exact Lm_10 _ _ _ _ _ (Nat.lt_succ_self _) hi0 hP hD hS hl
theorem k_X5_skipBlanks (l : Launch) (G : Gt) (e0 e01 : Nat) (sz : Nat) (bt : Nat → Int32) (xl : Int32) (xf : Int32) (xg : Int32) (xa : Int32) (xt : Int32) (xr : Int32) (xn : Int32) (hp : True) : MetV l yX5_skipBlanks wsX5_skipBlanks 0 0 G [.ref e0] [(e0, .inr (5, [.ref e01, .int xl, .int xf, .int xg, .int xa, .int xt, .int xr, .int xn])), aB G e01 400 bt] sz (fun (u : (Int32)) => True) (fun (u : (Int32)) => [(e0, .inr (5, [.ref e01, .int xl, .int xf, .int xg, .int u, .int xt, .int xr, .int xn])), aB G e01 400 bt]) :=
  c_X5_skipBlanks l G e0 e01 sz bt xl xf xg xa xt xr xn (by
    sorry)

set_option maxHeartbeats 4000000 in
set_option maxRecDepth 100000 in
theorem c_X5_hasMore (l : Launch) (G : Gt) (e0 e01 : Nat) (sz : Nat) (bt : Nat → Int32) (xl : Int32) (xf : Int32) (xg : Int32) (xa : Int32) (xt : Int32) (xr : Int32) (xn : Int32) (hv : (True) ∧ (∀ (xa2_2 : Int32), (True) → ((¬ xg = 0 → True) ∧ (xg = 0 → (xl ≤ xa2_2 → True) ∧ (¬ (xl ≤ xa2_2) → True))))) : MetI l yX5_hasMore wsX5_hasMore 1 20 G [.ref e0] [(e0, .inr (5, [.ref e01, .int xl, .int xf, .int xg, .int xa, .int xt, .int xr, .int xn])), aB G e01 400 bt] sz (fun (r : Int32) (u : (Int32)) => True) (fun (u : (Int32)) => [(e0, .inr (5, [.ref e01, .int xl, .int xf, .int xg, .int u, .int xt, .int xr, .int xn])), aB G e01 400 bt]) := by
  refine x_startI (cc := cX5_hasMore) (maxL := 1) (ret := (some .boolean)) (by decide) rfl (Nat.le_of_ble_eq_true rfl) ?_
  intro p e s m args below meth c A R Q ls hRf hRl hQ C hP hD hS hA hSS hl
  obtain ⟨hx, hb, hr, hml, hown, hts, hlocks, hKK⟩ := C
  have hown : s.vm.findClass RX5 = some m.cls := hown
  have hl : lv_has ls 1 [(0, .ref e0)] := hl
  have hinX5 : ∀ w ∈ u_ws RX5 TX5 8, w ∈ wsX5_hasMore := by decide +kernel
  have kl19 := hts (.fieldLink RX5 19 "WarmStones$Text" "length" "I") (by decide +kernel)
  have kl22 := hts (.fieldLink RX5 22 "WarmStones$Text" "at" "I") (by decide +kernel)
  have kl25 := hts (.fieldLink RX5 25 "WarmStones$Text" "fault" "I") (by decide +kernel)
  refine lv_aload_n hx hb dX5_hasMore_0 rfl (lv_at hl 0 rfl) ?_
  obtain ⟨hp, hv⟩ := hv
  refine x_callv (wr := []) (w' := fun (u : (Int32)) => [(e0, .inr (5, [.ref e01, .int xl, .int xf, .int xg, .int u, .int xt, .int xr, .int xn])), aB G e01 400 bt]) (x_runV (As := []) (rest := []) (n := 0) (C := RX5) (ci := 5) ⟨hx, hb, hml, hown, hts⟩ (k_X5_skipBlanks l G e0 e01 _ bt xl xf xg xa xt xr xn hp) gX5_hasMore_X5_skipBlanks rfl (by decide +kernel) ⟨Nat.le_trans (Nat.le_of_ble_eq_true rfl) hRf, Nat.le_trans (Nat.le_of_ble_eq_true rfl) hRl⟩ hKK hSS hS hA hP hD [0, 1] (by decide) rfl rfl rfl 0 rfl rfl hl.1 rfl (Nat.le_of_ble_eq_true rfl) dX5_hasMore_1) hP hD hS hA [0, 1] [] [0, 1] rfl rfl (by decide) (by decide) (by decide) (fun _ => rfl) (fun  u H locs hw hP hD hS => ?_)
  obtain ⟨xa2_2, rfl⟩ : ∃ z, z = u := ⟨_, rfl⟩
  have hP : va_P G.1 vwCl [(e0, .inr (5, [.ref e01, .int xl, .int xf, .int xg, .int xa2_2, .int xt, .int xr, .int xn])), aB G e01 400 bt] H := hP
  have hD : va_D A [(e0, .inr (5, [.ref e01, .int xl, .int xf, .int xg, .int xa2_2, .int xt, .int xr, .int xn])), aB G e01 400 bt] := hD
  have hv := hv xa2_2 hw
  refine lv_aload_n hx hb dX5_hasMore_4 rfl (lv_at hl 0 rfl) ?_
  refine va_get (D := G.1) (ci := 5) (v := .int xg) (C := RX5) (T := TX5) (N := 8) hx hb hts hinX5 hown hKK.1 hP 0 rfl rfl 3 (by decide) kl25 (fun _ h9 => h9) rfl dX5_hasMore_5 ?_
  refine lv_if_ne (tgt := 26) hx hb dX5_hasMore_8 (by decide) (fun hc_3 => ?_) (fun hc_3 => ?_)
  · have hv := hv.1 hc_3
    refine lv_iconst (v := 0) hx hb dX5_hasMore_26 (by decide) ?_
    exact x_zret (v := 0) xa2_2 hQ hx hb hr hlocks hS dX5_hasMore_27 rfl hv hP hD
  · have hv := hv.2 hc_3
    refine lv_aload_n hx hb dX5_hasMore_11 rfl (lv_at hl 0 rfl) ?_
    refine va_get (D := G.1) (ci := 5) (v := .int xa2_2) (C := RX5) (T := TX5) (N := 8) hx hb hts hinX5 hown hKK.1 hP 0 rfl rfl 4 (by decide) kl22 (fun _ h9 => h9) rfl dX5_hasMore_12 ?_
    refine lv_aload_n hx hb dX5_hasMore_15 rfl (lv_at hl 0 rfl) ?_
    refine va_get (D := G.1) (ci := 5) (v := .int xl) (C := RX5) (T := TX5) (N := 8) hx hb hts hinX5 hown hKK.1 hP 0 rfl rfl 1 (by decide) kl19 (fun _ h9 => h9) rfl dX5_hasMore_16 ?_
    refine lv_icmp_ge (tgt := 26) hx hb dX5_hasMore_19 (by decide) (fun hc_4 => ?_) (fun hc_4 => ?_)
    · have hv := hv.1 hc_4
      refine lv_iconst (v := 0) hx hb dX5_hasMore_26 (by decide) ?_
      exact x_zret (v := 0) xa2_2 hQ hx hb hr hlocks hS dX5_hasMore_27 rfl hv hP hD
    · have hv := hv.2 hc_4
      refine lv_iconst (v := 1) hx hb dX5_hasMore_22 (by decide) ?_
      refine lv_goto (tgt := 27) hx hb dX5_hasMore_23 (by decide) ?_
      exact x_zret (v := 1) xa2_2 hQ hx hb hr hlocks hS dX5_hasMore_27 rfl hv hP hD
theorem k_X5_hasMore (l : Launch) (G : Gt) (e0 e01 : Nat) (sz : Nat) (bt : Nat → Int32) (xl : Int32) (xf : Int32) (xg : Int32) (xa : Int32) (xt : Int32) (xr : Int32) (xn : Int32) (hp : True) : MetI l yX5_hasMore wsX5_hasMore 1 20 G [.ref e0] [(e0, .inr (5, [.ref e01, .int xl, .int xf, .int xg, .int xa, .int xt, .int xr, .int xn])), aB G e01 400 bt] sz (fun (r : Int32) (u : (Int32)) => True) (fun (u : (Int32)) => [(e0, .inr (5, [.ref e01, .int xl, .int xf, .int xg, .int u, .int xt, .int xr, .int xn])), aB G e01 400 bt]) :=
  c_X5_hasMore l G e0 e01 sz bt xl xf xg xa xt xr xn (by
    sorry)

set_option maxHeartbeats 4000000 in
set_option maxRecDepth 100000 in
theorem c_X5_fail (l : Launch) (G : Gt) (e0 e01 : Nat) (sz : Nat) (bt : Nat → Int32) (xl : Int32) (xf : Int32) (xg : Int32) (xa : Int32) (xt : Int32) (xr : Int32) (xn : Int32) (x : Int32) (hv : (¬ xg = 0 → True) ∧ (xg = 0 → True)) : MetV l yX5_fail wsX5_fail 0 0 G [.ref e0, .int x] [(e0, .inr (5, [.ref e01, .int xl, .int xf, .int xg, .int xa, .int xt, .int xr, .int xn])), aB G e01 400 bt] sz (fun (u : (Int32) × (Int32)) => True) (fun (u : (Int32) × (Int32)) => [(e0, .inr (5, [.ref e01, .int xl, .int u.2, .int u.1, .int xa, .int xt, .int xr, .int xn])), aB G e01 400 bt]) := by
  refine x_startV (cc := cX5_fail) (maxL := 2) (ret := none) (by decide) rfl (Nat.le_of_ble_eq_true rfl) ?_
  intro p e s m args below meth c A R Q ls hRf hRl hQ C hP hD hS hA hSS hl
  obtain ⟨hx, hb, hr, hml, hown, hts, hlocks, hKK⟩ := C
  have hown : s.vm.findClass RX5 = some m.cls := hown
  have hl : lv_has ls 2 [(0, .ref e0), (1, .int x)] := hl
  have hinX5 : ∀ w ∈ u_ws RX5 TX5 8, w ∈ wsX5_fail := by decide +kernel
  have kl124 := hts (.fieldLink RX5 124 "WarmStones$Text" "tokenAt" "I") (by decide +kernel)
  have kl15 := hts (.fieldLink RX5 15 "WarmStones$Text" "faultByte" "I") (by decide +kernel)
  have kl25 := hts (.fieldLink RX5 25 "WarmStones$Text" "fault" "I") (by decide +kernel)
  refine lv_aload_n hx hb dX5_fail_0 rfl (lv_at hl 0 rfl) ?_
  refine va_get (D := G.1) (ci := 5) (v := .int xg) (C := RX5) (T := TX5) (N := 8) hx hb hts hinX5 hown hKK.1 hP 0 rfl rfl 3 (by decide) kl25 (fun _ h9 => h9) rfl dX5_fail_1 ?_
  refine lv_if_ne (tgt := 20) hx hb dX5_fail_4 (by decide) (fun hc_1 => ?_) (fun hc_1 => ?_)
  · have hv := hv.1 hc_1
    exact x_vret (xg, xf) hQ hx hb hr hlocks hS dX5_fail_20 hv hP hD
  · have hv := hv.2 hc_1
    refine lv_aload_n hx hb dX5_fail_7 rfl (lv_at hl 0 rfl) ?_
    refine lv_iload_n hx hb dX5_fail_8 rfl (lv_at hl 1 rfl) ?_
    refine va_put (D := G.1) (ci := 5) (v := .int x) (ty := .int) (C := RX5) (T := TX5) (N := 8) hx hb hts hinX5 tyX5 tyX5_ok nmX5 hown hKK.1 hP hD hS 0 rfl rfl 3 (by decide) kl25 (fun _ h9 => h9) rfl (by decide +kernel) rfl rfl (Nat.le_of_ble_eq_true rfl) dX5_fail_9 (fun H locs hP hD hS => ?_)
    have hP : va_P G.1 vwCl [(e0, .inr (5, [.ref e01, .int xl, .int xf, .int x, .int xa, .int xt, .int xr, .int xn])), aB G e01 400 bt] H := hP
    have hD : va_D A [(e0, .inr (5, [.ref e01, .int xl, .int xf, .int x, .int xa, .int xt, .int xr, .int xn])), aB G e01 400 bt] := hD
    refine lv_aload_n hx hb dX5_fail_12 rfl (lv_at hl 0 rfl) ?_
    refine lv_aload_n hx hb dX5_fail_13 rfl (lv_at hl 0 rfl) ?_
    refine va_get (D := G.1) (ci := 5) (v := .int xt) (C := RX5) (T := TX5) (N := 8) hx hb hts hinX5 hown hKK.1 hP 0 rfl rfl 5 (by decide) kl124 (fun _ h9 => h9) rfl dX5_fail_14 ?_
    refine va_put (D := G.1) (ci := 5) (v := .int xt) (ty := .int) (C := RX5) (T := TX5) (N := 8) hx hb hts hinX5 tyX5 tyX5_ok nmX5 hown hKK.1 hP hD hS 0 rfl rfl 2 (by decide) kl15 (fun _ h9 => h9) rfl (by decide +kernel) rfl rfl (Nat.le_of_ble_eq_true rfl) dX5_fail_17 (fun H locs hP hD hS => ?_)
    have hP : va_P G.1 vwCl [(e0, .inr (5, [.ref e01, .int xl, .int xt, .int x, .int xa, .int xt, .int xr, .int xn])), aB G e01 400 bt] H := hP
    have hD : va_D A [(e0, .inr (5, [.ref e01, .int xl, .int xt, .int x, .int xa, .int xt, .int xr, .int xn])), aB G e01 400 bt] := hD
    exact x_vret (x, xt) hQ hx hb hr hlocks hS dX5_fail_20 hv hP hD
theorem k_X5_fail (l : Launch) (G : Gt) (e0 e01 : Nat) (sz : Nat) (bt : Nat → Int32) (xl : Int32) (xf : Int32) (xg : Int32) (xa : Int32) (xt : Int32) (xr : Int32) (xn : Int32) (x : Int32) (hp : True) : MetV l yX5_fail wsX5_fail 0 0 G [.ref e0, .int x] [(e0, .inr (5, [.ref e01, .int xl, .int xf, .int xg, .int xa, .int xt, .int xr, .int xn])), aB G e01 400 bt] sz (fun (u : (Int32) × (Int32)) => True) (fun (u : (Int32) × (Int32)) => [(e0, .inr (5, [.ref e01, .int xl, .int u.2, .int u.1, .int xa, .int xt, .int xr, .int xn])), aB G e01 400 bt]) :=
  c_X5_fail l G e0 e01 sz bt xl xf xg xa xt xr xn x (by
    sorry)

set_option maxHeartbeats 4000000 in
set_option maxRecDepth 100000 in
theorem c_X5_readWord (l : Launch) (G : Gt) (e0 e01 : Nat) (sz : Nat) (bt : Nat → Int32) (xl : Int32) (xf : Int32) (xg : Int32) (xa : Int32) (xt : Int32) (xr : Int32) (xn : Int32) (hv : (True) ∧ (∀ (xa2_2 : Int32), (True) → (∃ (I12_4 : Int32 → Prop) (μ12_5 : Int32 → Nat), I12_4 xa2_2 ∧ (∀ (ge04_3 : Int32), I12_4 ge04_3 → (xl ≤ ge04_3 → True) ∧ (¬ (xl ≤ ge04_3) → (vp_in ge04_3 400) ∧ (((bt ge04_3.toNatClampNeg) < 97 → True) ∧ (¬ ((bt ge04_3.toNatClampNeg) < 97) → (vp_in ge04_3 400) ∧ ((122 < (bt ge04_3.toNatClampNeg) → True) ∧ (¬ (122 < (bt ge04_3.toNatClampNeg)) → I12_4 (ge04_3 + 1) ∧ μ12_5 (ge04_3 + 1) < μ12_5 ge04_3))))))))) : MetV l yX5_readWord wsX5_readWord 1 20 G [.ref e0] [(e0, .inr (5, [.ref e01, .int xl, .int xf, .int xg, .int xa, .int xt, .int xr, .int xn])), aB G e01 400 bt] sz (fun (u : (Int32) × (Int32)) => True) (fun (u : (Int32) × (Int32)) => [(e0, .inr (5, [.ref e01, .int xl, .int xf, .int xg, .int u.1, .int u.2, .int xr, .int xn])), aB G e01 400 bt]) := by
  refine x_startV (cc := cX5_readWord) (maxL := 1) (ret := none) (by decide) rfl (Nat.le_of_ble_eq_true rfl) ?_
  intro p e s m args below meth c A R Q ls hRf hRl hQ C hP hD hS hA hSS hl
  obtain ⟨hx, hb, hr, hml, hown, hts, hlocks, hKK⟩ := C
  have hown : s.vm.findClass RX5 = some m.cls := hown
  have hl : lv_has ls 1 [(0, .ref e0)] := hl
  have hinX5 : ∀ w ∈ u_ws RX5 TX5 8, w ∈ wsX5_readWord := by decide +kernel
  have kl124 := hts (.fieldLink RX5 124 "WarmStones$Text" "tokenAt" "I") (by decide +kernel)
  have kl19 := hts (.fieldLink RX5 19 "WarmStones$Text" "length" "I") (by decide +kernel)
  have kl22 := hts (.fieldLink RX5 22 "WarmStones$Text" "at" "I") (by decide +kernel)
  have kl9 := hts (.fieldLink RX5 9 "WarmStones$Text" "bytes" "[B") (by decide +kernel)
  refine lv_aload_n hx hb dX5_readWord_0 rfl (lv_at hl 0 rfl) ?_
  obtain ⟨hp, hv⟩ := hv
  refine x_callv (wr := []) (w' := fun (u : (Int32)) => [(e0, .inr (5, [.ref e01, .int xl, .int xf, .int xg, .int u, .int xt, .int xr, .int xn])), aB G e01 400 bt]) (x_runV (As := []) (rest := []) (n := 0) (C := RX5) (ci := 5) ⟨hx, hb, hml, hown, hts⟩ (k_X5_skipBlanks l G e0 e01 _ bt xl xf xg xa xt xr xn hp) gX5_readWord_X5_skipBlanks rfl (by decide +kernel) ⟨Nat.le_trans (Nat.le_of_ble_eq_true rfl) hRf, Nat.le_trans (Nat.le_of_ble_eq_true rfl) hRl⟩ hKK hSS hS hA hP hD [0, 1] (by decide) rfl rfl rfl 0 rfl rfl hl.1 rfl (Nat.le_of_ble_eq_true rfl) dX5_readWord_1) hP hD hS hA [0, 1] [] [0, 1] rfl rfl (by decide) (by decide) (by decide) (fun _ => rfl) (fun  u H locs hw hP hD hS => ?_)
  obtain ⟨xa2_2, rfl⟩ : ∃ z, z = u := ⟨_, rfl⟩
  have hP : va_P G.1 vwCl [(e0, .inr (5, [.ref e01, .int xl, .int xf, .int xg, .int xa2_2, .int xt, .int xr, .int xn])), aB G e01 400 bt] H := hP
  have hD : va_D A [(e0, .inr (5, [.ref e01, .int xl, .int xf, .int xg, .int xa2_2, .int xt, .int xr, .int xn])), aB G e01 400 bt] := hD
  have hv := hv xa2_2 hw
  refine lv_aload_n hx hb dX5_readWord_4 rfl (lv_at hl 0 rfl) ?_
  refine lv_aload_n hx hb dX5_readWord_5 rfl (lv_at hl 0 rfl) ?_
  refine va_get (D := G.1) (ci := 5) (v := .int xa2_2) (C := RX5) (T := TX5) (N := 8) hx hb hts hinX5 hown hKK.1 hP 0 rfl rfl 4 (by decide) kl22 (fun _ h9 => h9) rfl dX5_readWord_6 ?_
  refine va_put (D := G.1) (ci := 5) (v := .int xa2_2) (ty := .int) (C := RX5) (T := TX5) (N := 8) hx hb hts hinX5 tyX5 tyX5_ok nmX5 hown hKK.1 hP hD hS 0 rfl rfl 5 (by decide) kl124 (fun _ h9 => h9) rfl (by decide +kernel) rfl rfl (Nat.le_of_ble_eq_true rfl) dX5_readWord_9 (fun H locs hP hD hS => ?_)
  have hP : va_P G.1 vwCl [(e0, .inr (5, [.ref e01, .int xl, .int xf, .int xg, .int xa2_2, .int xa2_2, .int xr, .int xn])), aB G e01 400 bt] H := hP
  have hD : va_D A [(e0, .inr (5, [.ref e01, .int xl, .int xf, .int xg, .int xa2_2, .int xa2_2, .int xr, .int xn])), aB G e01 400 bt] := hD
  obtain ⟨I12_4, μ12_5, hi0, hs_11⟩ := hv
  have Lm_13 : ∀ (n_12 : Nat) (ge04_3 : Int32) (H : Heap) (locs : List Loc) (ls : Array Slot), μ12_5 ge04_3 < n_12 → I12_4 ge04_3 → va_P G.1 vwCl [(e0, .inr (5, [.ref e01, .int xl, .int xf, .int xg, .int ge04_3, .int xa2_2, .int xr, .int xn])), aB G e01 400 bt] H → va_D A [(e0, .inr (5, [.ref e01, .int xl, .int xf, .int xg, .int ge04_3, .int xa2_2, .int xr, .int xn])), aB G e01 400 bt] → va_S A s.heap H locs → lv_has ls 1 [(0, .ref e0)] → W p l e R s m args below meth c H locs 0 0 Q (F0 m 12 ls []) := by
    intro n_12
    induction n_12 with
    | zero => intro ge04_3 H locs ls hm; exact absurd hm (Nat.not_lt_zero _)
    | succ n_12 ih_6 =>
      intro ge04_3 H locs ls hI_7 hi hP hD hS hl
      have hv := hs_11 ge04_3 hi
      refine lv_aload_n hx hb dX5_readWord_12 rfl (lv_at hl 0 rfl) ?_
      refine va_get (D := G.1) (ci := 5) (v := .int ge04_3) (C := RX5) (T := TX5) (N := 8) hx hb hts hinX5 hown hKK.1 hP 0 rfl rfl 4 (by decide) kl22 (fun _ h9 => h9) rfl dX5_readWord_13 ?_
      refine lv_aload_n hx hb dX5_readWord_16 rfl (lv_at hl 0 rfl) ?_
      refine va_get (D := G.1) (ci := 5) (v := .int xl) (C := RX5) (T := TX5) (N := 8) hx hb hts hinX5 hown hKK.1 hP 0 rfl rfl 1 (by decide) kl19 (fun _ h9 => h9) rfl dX5_readWord_17 ?_
      refine lv_icmp_ge (tgt := 64) hx hb dX5_readWord_20 (by decide) (fun hc_8 => ?_) (fun hc_8 => ?_)
      · have hv := hv.1 hc_8
        exact x_vret (ge04_3, xa2_2) hQ hx hb hr hlocks hS dX5_readWord_64 hv hP hD
      · have hv := hv.2 hc_8
        refine lv_aload_n hx hb dX5_readWord_23 rfl (lv_at hl 0 rfl) ?_
        refine va_get (D := G.1) (ci := 5) (v := .ref e01) (C := RX5) (T := TX5) (N := 8) hx hb hts hinX5 hown hKK.1 hP 0 rfl rfl 0 (by decide) kl9 (fun _ h9 => h9) rfl dX5_readWord_24 ?_
        refine lv_aload_n hx hb dX5_readWord_27 rfl (lv_at hl 0 rfl) ?_
        refine va_get (D := G.1) (ci := 5) (v := .int ge04_3) (C := RX5) (T := TX5) (N := 8) hx hb hts hinX5 hown hKK.1 hP 0 rfl rfl 4 (by decide) kl22 (fun _ h9 => h9) rfl dX5_readWord_28 ?_
        obtain ⟨hin, hv⟩ := hv
        refine va_bald hx hb hKK.1 hP 1 1 rfl rfl hin dX5_readWord_31 ?_
        refine lv_bipush (v := 97) hx hb dX5_readWord_32 (by decide) ?_
        refine lv_icmp_lt (tgt := 64) hx hb dX5_readWord_34 (by decide) (fun hc_9 => ?_) (fun hc_9 => ?_)
        · have hv := hv.1 hc_9
          exact x_vret (ge04_3, xa2_2) hQ hx hb hr hlocks hS dX5_readWord_64 hv hP hD
        · have hv := hv.2 hc_9
          refine lv_aload_n hx hb dX5_readWord_37 rfl (lv_at hl 0 rfl) ?_
          refine va_get (D := G.1) (ci := 5) (v := .ref e01) (C := RX5) (T := TX5) (N := 8) hx hb hts hinX5 hown hKK.1 hP 0 rfl rfl 0 (by decide) kl9 (fun _ h9 => h9) rfl dX5_readWord_38 ?_
          refine lv_aload_n hx hb dX5_readWord_41 rfl (lv_at hl 0 rfl) ?_
          refine va_get (D := G.1) (ci := 5) (v := .int ge04_3) (C := RX5) (T := TX5) (N := 8) hx hb hts hinX5 hown hKK.1 hP 0 rfl rfl 4 (by decide) kl22 (fun _ h9 => h9) rfl dX5_readWord_42 ?_
          obtain ⟨hin, hv⟩ := hv
          refine va_bald hx hb hKK.1 hP 1 1 rfl rfl hin dX5_readWord_45 ?_
          refine lv_bipush (v := 122) hx hb dX5_readWord_46 (by decide) ?_
          refine lv_icmp_gt (tgt := 64) hx hb dX5_readWord_48 (by decide) (fun hc_10 => ?_) (fun hc_10 => ?_)
          · have hv := hv.1 hc_10
            exact x_vret (ge04_3, xa2_2) hQ hx hb hr hlocks hS dX5_readWord_64 hv hP hD
          · have hv := hv.2 hc_10
            refine lv_aload_n hx hb dX5_readWord_51 rfl (lv_at hl 0 rfl) ?_
            refine lv_dup hx hb dX5_readWord_52 rfl ?_
            refine va_get (D := G.1) (ci := 5) (v := .int ge04_3) (C := RX5) (T := TX5) (N := 8) hx hb hts hinX5 hown hKK.1 hP 0 rfl rfl 4 (by decide) kl22 (fun _ h9 => h9) rfl dX5_readWord_53 ?_
            refine lv_iconst (v := 1) hx hb dX5_readWord_56 (by decide) ?_
            refine lv_iadd hx hb dX5_readWord_57 ?_
            refine va_put (D := G.1) (ci := 5) (v := .int (ge04_3 + 1)) (ty := .int) (C := RX5) (T := TX5) (N := 8) hx hb hts hinX5 tyX5 tyX5_ok nmX5 hown hKK.1 hP hD hS 0 rfl rfl 4 (by decide) kl22 (fun _ h9 => h9) rfl (by decide +kernel) rfl rfl (Nat.le_of_ble_eq_true rfl) dX5_readWord_58 (fun H locs hP hD hS => ?_)
            have hP : va_P G.1 vwCl [(e0, .inr (5, [.ref e01, .int xl, .int xf, .int xg, .int (ge04_3 + 1), .int xa2_2, .int xr, .int xn])), aB G e01 400 bt] H := hP
            have hD : va_D A [(e0, .inr (5, [.ref e01, .int xl, .int xf, .int xg, .int (ge04_3 + 1), .int xa2_2, .int xr, .int xn])), aB G e01 400 bt] := hD
            refine lv_goto (tgt := 12) hx hb dX5_readWord_61 (by decide) ?_
            exact ih_6 _ _ _ _ (Nat.lt_of_lt_of_le hv.2 (Nat.le_of_lt_succ hI_7)) hv.1 hP hD hS hl
  exact Lm_13 _ _ _ _ _ (Nat.lt_succ_self _) hi0 hP hD hS hl
theorem k_X5_readWord (l : Launch) (G : Gt) (e0 e01 : Nat) (sz : Nat) (bt : Nat → Int32) (xl : Int32) (xf : Int32) (xg : Int32) (xa : Int32) (xt : Int32) (xr : Int32) (xn : Int32) (hp : True) : MetV l yX5_readWord wsX5_readWord 1 20 G [.ref e0] [(e0, .inr (5, [.ref e01, .int xl, .int xf, .int xg, .int xa, .int xt, .int xr, .int xn])), aB G e01 400 bt] sz (fun (u : (Int32) × (Int32)) => True) (fun (u : (Int32) × (Int32)) => [(e0, .inr (5, [.ref e01, .int xl, .int xf, .int xg, .int u.1, .int u.2, .int xr, .int xn])), aB G e01 400 bt]) :=
  c_X5_readWord l G e0 e01 sz bt xl xf xg xa xt xr xn (by
    sorry)

set_option maxHeartbeats 4000000 in
set_option maxRecDepth 100000 in
theorem c_X5_wordIs (l : Launch) (G : Gt) (e0 e01 : Nat) (sz : Nat) (bt : Nat → Int32) (xl : Int32) (xf : Int32) (xg : Int32) (xa : Int32) (xt : Int32) (xr : Int32) (xn : Int32) (i_ : Nat) (hi9 : i_ < 9) (hv : ((xa - xt) = (nI (stL.getD i_ 0)) → ∃ (I20_4 : Int32 → Prop) (μ20_5 : Int32 → Nat), I20_4 0 ∧ (∀ (x2_3 : Int32), I20_4 x2_3 → ((nI (stL.getD i_ 0)) ≤ x2_3 → True) ∧ (¬ ((nI (stL.getD i_ 0)) ≤ x2_3) → (vp_in (xt + x2_3) 400) ∧ ((vp_in x2_3 (stL.getD i_ 0)) ∧ (((bt (xt + x2_3).toNatClampNeg) = ((stB.getD i_ []).getD x2_3.toNatClampNeg 0 &&& 255) → I20_4 (x2_3 + 1) ∧ μ20_5 (x2_3 + 1) < μ20_5 x2_3) ∧ (¬ ((bt (xt + x2_3).toNatClampNeg) = ((stB.getD i_ []).getD x2_3.toNatClampNeg 0 &&& 255)) → True)))))) ∧ (¬ ((xa - xt) = (nI (stL.getD i_ 0))) → True)) : MetI l yX5_wordIs wsX5_wordIs 4 85 G [.ref e0, .ref (kS G i_)] [(e0, .inr (5, [.ref e01, .int xl, .int xf, .int xg, .int xa, .int xt, .int xr, .int xn])), aB G e01 400 bt] sz (fun (r : Int32) (_ : Unit) => True) (fun (_ : Unit) => [(e0, .inr (5, [.ref e01, .int xl, .int xf, .int xg, .int xa, .int xt, .int xr, .int xn])), aB G e01 400 bt]) := by
  refine x_startI (cc := cX5_wordIs) (maxL := 3) (ret := (some .boolean)) (by decide) rfl (Nat.le_of_ble_eq_true rfl) ?_
  intro p e s m args below meth c A R Q ls hRf hRl hQ C hP hD hS hA hSS hl
  obtain ⟨hx, hb, hr, hml, hown, hts, hlocks, hKK⟩ := C
  have hown : s.vm.findClass RX5 = some m.cls := hown
  have hl : lv_has ls 3 [(0, .ref e0), (1, .ref (kS G i_))] := hl
  have hi9 := hi9
  have hinX5 : ∀ w ∈ u_ws RX5 TX5 8, w ∈ wsX5_wordIs := by decide +kernel
  have kl124 := hts (.fieldLink RX5 124 "WarmStones$Text" "tokenAt" "I") (by decide +kernel)
  have kl22 := hts (.fieldLink RX5 22 "WarmStones$Text" "at" "I") (by decide +kernel)
  have kl9 := hts (.fieldLink RX5 9 "WarmStones$Text" "bytes" "[B") (by decide +kernel)
  refine lv_aload_n hx hb dX5_wordIs_0 rfl (lv_at hl 0 rfl) ?_
  refine va_get (D := G.1) (ci := 5) (v := .int xa) (C := RX5) (T := TX5) (N := 8) hx hb hts hinX5 hown hKK.1 hP 0 rfl rfl 4 (by decide) kl22 (fun _ h9 => h9) rfl dX5_wordIs_1 ?_
  refine lv_aload_n hx hb dX5_wordIs_4 rfl (lv_at hl 0 rfl) ?_
  refine va_get (D := G.1) (ci := 5) (v := .int xt) (C := RX5) (T := TX5) (N := 8) hx hb hts hinX5 hown hKK.1 hP 0 rfl rfl 5 (by decide) kl124 (fun _ h9 => h9) rfl dX5_wordIs_5 ?_
  refine lv_isub hx hb dX5_wordIs_8 ?_
  refine lv_aload_n hx hb dX5_wordIs_9 rfl (lv_at hl 1 rfl) ?_
  refine x_calliR (x_runVK (i := i_) (As := []) (rest := [.int (xa - xt)]) (n := 0) ⟨hx, hb, hml, hown, hts⟩ (k_J0_length_8abf5 l G  _ i_ hi9) gX5_wordIs_J0_length_8abf5 rfl (by decide +kernel) ⟨Nat.le_trans (Nat.le_of_ble_eq_true rfl) hRf, Nat.le_trans (Nat.le_of_ble_eq_true rfl) hRl⟩ hKK hSS hS hA hP hD hi9 [] (by decide) rfl rfl hl.1 rfl (Nat.le_of_ble_eq_true rfl) dX5_wordIs_10) hP hD hS hA [] rfl (fun r_1 _ H locs hw hP hS => ?_)
  replace hw := hw.symm; subst hw
  refine lv_icmp_eq (tgt := 18) hx hb dX5_wordIs_13 (by decide) (fun hc_2 => ?_) (fun hc_2 => ?_)
  · have hv := hv.1 hc_2
    refine lv_iconst (v := 0) hx hb dX5_wordIs_18 (by decide) ?_
    refine lv_istore_n (lv' := [(2, .int 0), (0, .ref e0), (1, .ref (kS G i_))]) hx hb dX5_wordIs_19 rfl hl (by decide) rfl (fun ls hl => ?_)
    obtain ⟨I20_4, μ20_5, hi0, hs_12⟩ := hv
    have Lm_14 : ∀ (n_13 : Nat) (x2_3 : Int32) (H : Heap) (locs : List Loc) (ls : Array Slot), μ20_5 x2_3 < n_13 → I20_4 x2_3 → va_P G.1 vwCl [(e0, .inr (5, [.ref e01, .int xl, .int xf, .int xg, .int xa, .int xt, .int xr, .int xn])), aB G e01 400 bt] H → va_D A [(e0, .inr (5, [.ref e01, .int xl, .int xf, .int xg, .int xa, .int xt, .int xr, .int xn])), aB G e01 400 bt] → va_S A s.heap H locs → lv_has ls 3 [(2, .int x2_3), (0, .ref e0), (1, .ref (kS G i_))] → W p l e R s m args below meth c H locs 0 0 Q (F0 m 20 ls []) := by
      intro n_13
      induction n_13 with
      | zero => intro x2_3 H locs ls hm; exact absurd hm (Nat.not_lt_zero _)
      | succ n_13 ih_6 =>
        intro x2_3 H locs ls hI_7 hi hP hD hS hl
        have hv := hs_12 x2_3 hi
        refine lv_iload_n hx hb dX5_wordIs_20 rfl (lv_at hl 0 rfl) ?_
        refine lv_aload_n hx hb dX5_wordIs_21 rfl (lv_at hl 2 rfl) ?_
        refine x_calliR (x_runVK (i := i_) (As := []) (rest := [.int x2_3]) (n := 0) ⟨hx, hb, hml, hown, hts⟩ (k_J0_length_8abf5 l G  _ i_ hi9) gX5_wordIs_J0_length_8abf5 rfl (by decide +kernel) ⟨Nat.le_trans (Nat.le_of_ble_eq_true rfl) hRf, Nat.le_trans (Nat.le_of_ble_eq_true rfl) hRl⟩ hKK hSS hS hA hP hD hi9 [] (by decide) rfl rfl hl.1 rfl (Nat.le_of_ble_eq_true rfl) dX5_wordIs_22) hP hD hS hA [] rfl (fun r_8 _ H locs hw hP hS => ?_)
        replace hw := hw.symm; subst hw
        refine lv_icmp_ge (tgt := 55) hx hb dX5_wordIs_25 (by decide) (fun hc_9 => ?_) (fun hc_9 => ?_)
        · have hv := hv.1 hc_9
          refine lv_iconst (v := 1) hx hb dX5_wordIs_55 (by decide) ?_
          exact x_zret (v := 1) () hQ hx hb hr hlocks hS dX5_wordIs_56 rfl hv hP hD
        · have hv := hv.2 hc_9
          refine lv_aload_n hx hb dX5_wordIs_28 rfl (lv_at hl 1 rfl) ?_
          refine va_get (D := G.1) (ci := 5) (v := .ref e01) (C := RX5) (T := TX5) (N := 8) hx hb hts hinX5 hown hKK.1 hP 0 rfl rfl 0 (by decide) kl9 (fun _ h9 => h9) rfl dX5_wordIs_29 ?_
          refine lv_aload_n hx hb dX5_wordIs_32 rfl (lv_at hl 1 rfl) ?_
          refine va_get (D := G.1) (ci := 5) (v := .int xt) (C := RX5) (T := TX5) (N := 8) hx hb hts hinX5 hown hKK.1 hP 0 rfl rfl 5 (by decide) kl124 (fun _ h9 => h9) rfl dX5_wordIs_33 ?_
          refine lv_iload_n hx hb dX5_wordIs_36 rfl (lv_at hl 0 rfl) ?_
          refine lv_iadd hx hb dX5_wordIs_37 ?_
          obtain ⟨hin, hv⟩ := hv
          refine va_bald hx hb hKK.1 hP 1 1 rfl rfl hin dX5_wordIs_38 ?_
          refine lv_aload_n hx hb dX5_wordIs_39 rfl (lv_at hl 2 rfl) ?_
          refine lv_iload_n hx hb dX5_wordIs_40 rfl (lv_at hl 0 rfl) ?_
          obtain ⟨hp, hv⟩ := hv
          refine x_calliR (x_runVK (i := i_) (As := [.int x2_3]) (rest := [.int (bt (xt + x2_3).toNatClampNeg)]) (n := 1) ⟨hx, hb, hml, hown, hts⟩ (k_J0_charAt_5068e l G  _ i_ x2_3 hi9 hp) gX5_wordIs_J0_charAt_5068e rfl (by decide +kernel) ⟨Nat.le_trans (Nat.le_of_ble_eq_true rfl) hRf, Nat.le_trans (Nat.le_of_ble_eq_true rfl) hRl⟩ hKK hSS hS hA hP hD hi9 [] (by decide) rfl rfl hl.1 rfl (Nat.le_of_ble_eq_true rfl) dX5_wordIs_41) hP hD hS hA [] rfl (fun r_10 _ H locs hw hP hS => ?_)
          replace hw := hw.symm; subst hw
          refine lv_icmp_eq (tgt := 49) hx hb dX5_wordIs_44 (by decide) (fun hc_11 => ?_) (fun hc_11 => ?_)
          · have hv := hv.1 hc_11
            refine lv_iinc (v := (x2_3 + 1)) (lv' := [(2, .int (x2_3 + 1)), (0, .ref e0), (1, .ref (kS G i_))]) hx hb dX5_wordIs_49 hl (k := 0) rfl rfl (by decide) rfl (fun ls hl => ?_)
            refine lv_goto (tgt := 20) hx hb dX5_wordIs_52 (by decide) ?_
            exact ih_6 _ _ _ _ (Nat.lt_of_lt_of_le hv.2 (Nat.le_of_lt_succ hI_7)) hv.1 hP hD hS hl
          · have hv := hv.2 hc_11
            refine lv_iconst (v := 0) hx hb dX5_wordIs_47 (by decide) ?_
            exact x_zret (v := 0) () hQ hx hb hr hlocks hS dX5_wordIs_48 rfl hv hP hD
    exact Lm_14 _ _ _ _ _ (Nat.lt_succ_self _) hi0 hP hD hS hl
  · have hv := hv.2 hc_2
    refine lv_iconst (v := 0) hx hb dX5_wordIs_16 (by decide) ?_
    exact x_zret (v := 0) () hQ hx hb hr hlocks hS dX5_wordIs_17 rfl hv hP hD
theorem k_X5_wordIs (l : Launch) (G : Gt) (e0 e01 : Nat) (sz : Nat) (bt : Nat → Int32) (xl : Int32) (xf : Int32) (xg : Int32) (xa : Int32) (xt : Int32) (xr : Int32) (xn : Int32) (i_ : Nat) (hi9 : i_ < 9) (hp : True) : MetI l yX5_wordIs wsX5_wordIs 4 85 G [.ref e0, .ref (kS G i_)] [(e0, .inr (5, [.ref e01, .int xl, .int xf, .int xg, .int xa, .int xt, .int xr, .int xn])), aB G e01 400 bt] sz (fun (r : Int32) (_ : Unit) => True) (fun (_ : Unit) => [(e0, .inr (5, [.ref e01, .int xl, .int xf, .int xg, .int xa, .int xt, .int xr, .int xn])), aB G e01 400 bt]) :=
  c_X5_wordIs l G e0 e01 sz bt xl xf xg xa xt xr xn i_ hi9 (by
    sorry)

set_option maxHeartbeats 4000000 in
set_option maxRecDepth 100000 in
theorem c_X5_readNumber (l : Launch) (G : Gt) (e0 e01 : Nat) (sz : Nat) (bt : Nat → Int32) (xl : Int32) (xf : Int32) (xg : Int32) (xa : Int32) (xt : Int32) (xr : Int32) (xn : Int32) (x : Int32) (y : Int32) (hv : (xg = 0 → (True) ∧ (∀ (xa2_3 : Int32), (True) → (∃ (I23_6 : Int32 → Int32 → Prop) (μ23_7 : Int32 → Int32 → Nat), I23_6 xa2_3 0 ∧ (∀ (ge04_4 : Int32) (x3_5 : Int32), I23_6 ge04_4 x3_5 → (xl ≤ ge04_4 → (¬ ge04_4 = xa2_3 → (4 < (ge04_4 - xa2_3) → (True) ∧ (∀ (xg2_14 : Int32) (xf2_15 : Int32), (True) → (True))) ∧ (¬ (4 < (ge04_4 - xa2_3)) → (¬ x3_5 < x ∧ ¬ y < x3_5 → True) ∧ (¬ (¬ x3_5 < x ∧ ¬ y < x3_5) → (True) ∧ (∀ (xg2_19 : Int32) (xf2_20 : Int32), (True) → (True))))) ∧ (ge04_4 = xa2_3 → (True) ∧ (∀ (xg2_22 : Int32) (xf2_23 : Int32), (True) → (True)))) ∧ (¬ (xl ≤ ge04_4) → (vp_in ge04_4 400) ∧ (((bt ge04_4.toNatClampNeg) < 48 → (¬ ge04_4 = xa2_3 → (4 < (ge04_4 - xa2_3) → (True) ∧ (∀ (xg2_28 : Int32) (xf2_29 : Int32), (True) → (True))) ∧ (¬ (4 < (ge04_4 - xa2_3)) → (¬ x3_5 < x ∧ ¬ y < x3_5 → True) ∧ (¬ (¬ x3_5 < x ∧ ¬ y < x3_5) → (True) ∧ (∀ (xg2_33 : Int32) (xf2_34 : Int32), (True) → (True))))) ∧ (ge04_4 = xa2_3 → (True) ∧ (∀ (xg2_36 : Int32) (xf2_37 : Int32), (True) → (True)))) ∧ (¬ ((bt ge04_4.toNatClampNeg) < 48) → (vp_in ge04_4 400) ∧ ((57 < (bt ge04_4.toNatClampNeg) → (¬ ge04_4 = xa2_3 → (4 < (ge04_4 - xa2_3) → (True) ∧ (∀ (xg2_42 : Int32) (xf2_43 : Int32), (True) → (True))) ∧ (¬ (4 < (ge04_4 - xa2_3)) → (¬ x3_5 < x ∧ ¬ y < x3_5 → True) ∧ (¬ (¬ x3_5 < x ∧ ¬ y < x3_5) → (True) ∧ (∀ (xg2_47 : Int32) (xf2_48 : Int32), (True) → (True))))) ∧ (ge04_4 = xa2_3 → (True) ∧ (∀ (xg2_50 : Int32) (xf2_51 : Int32), (True) → (True)))) ∧ (¬ (57 < (bt ge04_4.toNatClampNeg)) → (vp_in ge04_4 400) ∧ (I23_6 (ge04_4 + 1) (((10 * x3_5) + (bt ge04_4.toNatClampNeg)) - 48) ∧ μ23_7 (ge04_4 + 1) (((10 * x3_5) + (bt ge04_4.toNatClampNeg)) - 48) < μ23_7 ge04_4 x3_5)))))))))) ∧ (¬ (xg = 0) → True)) : MetI l yX5_readNumber wsX5_readNumber 1 22 G [.ref e0, .int x, .int y] [(e0, .inr (5, [.ref e01, .int xl, .int xf, .int xg, .int xa, .int xt, .int xr, .int xn])), aB G e01 400 bt] sz (fun (r : Int32) (u : (Int32) × (Int32) × (Int32) × (Int32)) => True) (fun (u : (Int32) × (Int32) × (Int32) × (Int32)) => [(e0, .inr (5, [.ref e01, .int xl, .int u.2.2.2, .int u.2.2.1, .int u.1, .int u.2.1, .int xr, .int xn])), aB G e01 400 bt]) := by
  refine x_startI (cc := cX5_readNumber) (maxL := 4) (ret := (some .int)) (by decide) rfl (Nat.le_of_ble_eq_true rfl) ?_
  intro p e s m args below meth c A R Q ls hRf hRl hQ C hP hD hS hA hSS hl
  obtain ⟨hx, hb, hr, hml, hown, hts, hlocks, hKK⟩ := C
  have hown : s.vm.findClass RX5 = some m.cls := hown
  have hl : lv_has ls 4 [(0, .ref e0), (1, .int x), (2, .int y)] := hl
  have hinX5 : ∀ w ∈ u_ws RX5 TX5 8, w ∈ wsX5_readNumber := by decide +kernel
  have kl124 := hts (.fieldLink RX5 124 "WarmStones$Text" "tokenAt" "I") (by decide +kernel)
  have kl19 := hts (.fieldLink RX5 19 "WarmStones$Text" "length" "I") (by decide +kernel)
  have kl22 := hts (.fieldLink RX5 22 "WarmStones$Text" "at" "I") (by decide +kernel)
  have kl25 := hts (.fieldLink RX5 25 "WarmStones$Text" "fault" "I") (by decide +kernel)
  have kl9 := hts (.fieldLink RX5 9 "WarmStones$Text" "bytes" "[B") (by decide +kernel)
  have kn_iRX7 := hts (.initialized RX7) (by decide +kernel)
  have kn_sX7_within := hts (.static yX7_within) (by decide +kernel)
  refine lv_aload_n hx hb dX5_readNumber_0 rfl (lv_at hl 0 rfl) ?_
  refine va_get (D := G.1) (ci := 5) (v := .int xg) (C := RX5) (T := TX5) (N := 8) hx hb hts hinX5 hown hKK.1 hP 0 rfl rfl 3 (by decide) kl25 (fun _ h9 => h9) rfl dX5_readNumber_1 ?_
  refine lv_if_eq (tgt := 9) hx hb dX5_readNumber_4 (by decide) (fun hc_1 => ?_) (fun hc_1 => ?_)
  · have hv := hv.1 hc_1
    refine lv_aload_n hx hb dX5_readNumber_9 rfl (lv_at hl 0 rfl) ?_
    obtain ⟨hp, hv⟩ := hv
    refine x_callv (wr := []) (w' := fun (u : (Int32)) => [(e0, .inr (5, [.ref e01, .int xl, .int xf, .int xg, .int u, .int xt, .int xr, .int xn])), aB G e01 400 bt]) (x_runV (As := []) (rest := []) (n := 0) (C := RX5) (ci := 5) ⟨hx, hb, hml, hown, hts⟩ (k_X5_skipBlanks l G e0 e01 _ bt xl xf xg xa xt xr xn hp) gX5_readNumber_X5_skipBlanks rfl (by decide +kernel) ⟨Nat.le_trans (Nat.le_of_ble_eq_true rfl) hRf, Nat.le_trans (Nat.le_of_ble_eq_true rfl) hRl⟩ hKK hSS hS hA hP hD [0, 1] (by decide) rfl rfl rfl 0 rfl rfl hl.1 rfl (Nat.le_of_ble_eq_true rfl) dX5_readNumber_10) hP hD hS hA [0, 1] [] [0, 1] rfl rfl (by decide) (by decide) (by decide) (fun _ => rfl) (fun  u H locs hw hP hD hS => ?_)
    obtain ⟨xa2_3, rfl⟩ : ∃ z, z = u := ⟨_, rfl⟩
    have hP : va_P G.1 vwCl [(e0, .inr (5, [.ref e01, .int xl, .int xf, .int xg, .int xa2_3, .int xt, .int xr, .int xn])), aB G e01 400 bt] H := hP
    have hD : va_D A [(e0, .inr (5, [.ref e01, .int xl, .int xf, .int xg, .int xa2_3, .int xt, .int xr, .int xn])), aB G e01 400 bt] := hD
    have hv := hv xa2_3 hw
    refine lv_aload_n hx hb dX5_readNumber_13 rfl (lv_at hl 0 rfl) ?_
    refine lv_aload_n hx hb dX5_readNumber_14 rfl (lv_at hl 0 rfl) ?_
    refine va_get (D := G.1) (ci := 5) (v := .int xa2_3) (C := RX5) (T := TX5) (N := 8) hx hb hts hinX5 hown hKK.1 hP 0 rfl rfl 4 (by decide) kl22 (fun _ h9 => h9) rfl dX5_readNumber_15 ?_
    refine va_put (D := G.1) (ci := 5) (v := .int xa2_3) (ty := .int) (C := RX5) (T := TX5) (N := 8) hx hb hts hinX5 tyX5 tyX5_ok nmX5 hown hKK.1 hP hD hS 0 rfl rfl 5 (by decide) kl124 (fun _ h9 => h9) rfl (by decide +kernel) rfl rfl (Nat.le_of_ble_eq_true rfl) dX5_readNumber_18 (fun H locs hP hD hS => ?_)
    have hP : va_P G.1 vwCl [(e0, .inr (5, [.ref e01, .int xl, .int xf, .int xg, .int xa2_3, .int xa2_3, .int xr, .int xn])), aB G e01 400 bt] H := hP
    have hD : va_D A [(e0, .inr (5, [.ref e01, .int xl, .int xf, .int xg, .int xa2_3, .int xa2_3, .int xr, .int xn])), aB G e01 400 bt] := hD
    refine lv_iconst (v := 0) hx hb dX5_readNumber_21 (by decide) ?_
    refine lv_istore_n (lv' := [(3, .int 0), (0, .ref e0), (1, .int x), (2, .int y)]) hx hb dX5_readNumber_22 rfl hl (by decide) rfl (fun ls hl => ?_)
    obtain ⟨I23_6, μ23_7, hi0, hs_52⟩ := hv
    have Lm_54 : ∀ (n_53 : Nat) (ge04_4 : Int32) (x3_5 : Int32) (H : Heap) (locs : List Loc) (ls : Array Slot), μ23_7 ge04_4 x3_5 < n_53 → I23_6 ge04_4 x3_5 → va_P G.1 vwCl [(e0, .inr (5, [.ref e01, .int xl, .int xf, .int xg, .int ge04_4, .int xa2_3, .int xr, .int xn])), aB G e01 400 bt] H → va_D A [(e0, .inr (5, [.ref e01, .int xl, .int xf, .int xg, .int ge04_4, .int xa2_3, .int xr, .int xn])), aB G e01 400 bt] → va_S A s.heap H locs → lv_has ls 4 [(3, .int x3_5), (0, .ref e0), (1, .int x), (2, .int y)] → W p l e R s m args below meth c H locs 0 0 Q (F0 m 23 ls []) := by
      intro n_53
      induction n_53 with
      | zero => intro ge04_4 x3_5 H locs ls hm; exact absurd hm (Nat.not_lt_zero _)
      | succ n_53 ih_8 =>
        intro ge04_4 x3_5 H locs ls hI_9 hi hP hD hS hl
        have hv := hs_52 ge04_4 x3_5 hi
        refine lv_aload_n hx hb dX5_readNumber_23 rfl (lv_at hl 1 rfl) ?_
        refine va_get (D := G.1) (ci := 5) (v := .int ge04_4) (C := RX5) (T := TX5) (N := 8) hx hb hts hinX5 hown hKK.1 hP 0 rfl rfl 4 (by decide) kl22 (fun _ h9 => h9) rfl dX5_readNumber_24 ?_
        refine lv_aload_n hx hb dX5_readNumber_27 rfl (lv_at hl 1 rfl) ?_
        refine va_get (D := G.1) (ci := 5) (v := .int xl) (C := RX5) (T := TX5) (N := 8) hx hb hts hinX5 hown hKK.1 hP 0 rfl rfl 1 (by decide) kl19 (fun _ h9 => h9) rfl dX5_readNumber_28 ?_
        refine lv_icmp_ge (tgt := 93) hx hb dX5_readNumber_31 (by decide) (fun hc_10 => ?_) (fun hc_10 => ?_)
        · have hv := hv.1 hc_10
          refine lv_aload_n hx hb dX5_readNumber_93 rfl (lv_at hl 1 rfl) ?_
          refine va_get (D := G.1) (ci := 5) (v := .int ge04_4) (C := RX5) (T := TX5) (N := 8) hx hb hts hinX5 hown hKK.1 hP 0 rfl rfl 4 (by decide) kl22 (fun _ h9 => h9) rfl dX5_readNumber_94 ?_
          refine lv_aload_n hx hb dX5_readNumber_97 rfl (lv_at hl 1 rfl) ?_
          refine va_get (D := G.1) (ci := 5) (v := .int xa2_3) (C := RX5) (T := TX5) (N := 8) hx hb hts hinX5 hown hKK.1 hP 0 rfl rfl 5 (by decide) kl124 (fun _ h9 => h9) rfl dX5_readNumber_98 ?_
          refine lv_icmp_ne (tgt := 112) hx hb dX5_readNumber_101 (by decide) (fun hc_11 => ?_) (fun hc_11 => ?_)
          · have hv := hv.1 hc_11
            refine lv_aload_n hx hb dX5_readNumber_112 rfl (lv_at hl 1 rfl) ?_
            refine va_get (D := G.1) (ci := 5) (v := .int ge04_4) (C := RX5) (T := TX5) (N := 8) hx hb hts hinX5 hown hKK.1 hP 0 rfl rfl 4 (by decide) kl22 (fun _ h9 => h9) rfl dX5_readNumber_113 ?_
            refine lv_aload_n hx hb dX5_readNumber_116 rfl (lv_at hl 1 rfl) ?_
            refine va_get (D := G.1) (ci := 5) (v := .int xa2_3) (C := RX5) (T := TX5) (N := 8) hx hb hts hinX5 hown hKK.1 hP 0 rfl rfl 5 (by decide) kl124 (fun _ h9 => h9) rfl dX5_readNumber_117 ?_
            refine lv_isub hx hb dX5_readNumber_120 ?_
            refine lv_iconst (v := 4) hx hb dX5_readNumber_121 (by decide) ?_
            refine lv_icmp_gt (tgt := 134) hx hb dX5_readNumber_122 (by decide) (fun hc_12 => ?_) (fun hc_12 => ?_)
            · have hv := hv.1 hc_12
              refine lv_aload_n hx hb dX5_readNumber_134 rfl (lv_at hl 1 rfl) ?_
              refine lv_iconst (v := 2) hx hb dX5_readNumber_135 (by decide) ?_
              obtain ⟨hp, hv⟩ := hv
              refine x_callv (wr := []) (w' := fun (u : (Int32) × (Int32)) => [(e0, .inr (5, [.ref e01, .int xl, .int u.2, .int u.1, .int ge04_4, .int xa2_3, .int xr, .int xn])), aB G e01 400 bt]) (x_runV (As := [.int 2]) (rest := []) (n := 1) (C := RX5) (ci := 5) ⟨hx, hb, hml, hown, hts⟩ (k_X5_fail l G e0 e01 _ bt xl xf xg ge04_4 xa2_3 xr xn 2 hp) gX5_readNumber_X5_fail rfl (by decide +kernel) ⟨Nat.le_trans (Nat.le_of_ble_eq_true rfl) hRf, Nat.le_trans (Nat.le_of_ble_eq_true rfl) hRl⟩ hKK hSS hS hA hP hD [0, 1] (by decide) rfl rfl rfl 0 rfl rfl hl.1 rfl (Nat.le_of_ble_eq_true rfl) dX5_readNumber_136) hP hD hS hA [0, 1] [] [0, 1] rfl rfl (by decide) (by decide) (by decide) (fun _ => rfl) (fun  u H locs hw hP hD hS => ?_)
              obtain ⟨xg2_14, xf2_15⟩ := u
              have hP : va_P G.1 vwCl [(e0, .inr (5, [.ref e01, .int xl, .int xf2_15, .int xg2_14, .int ge04_4, .int xa2_3, .int xr, .int xn])), aB G e01 400 bt] H := hP
              have hD : va_D A [(e0, .inr (5, [.ref e01, .int xl, .int xf2_15, .int xg2_14, .int ge04_4, .int xa2_3, .int xr, .int xn])), aB G e01 400 bt] := hD
              have hv := hv xg2_14 xf2_15 hw
              refine lv_iload_n hx hb dX5_readNumber_139 rfl (lv_at hl 0 rfl) ?_
              exact x_iret (v := x3_5) (ge04_4, xa2_3, xg2_14, xf2_15) hQ hx hb hr hlocks hS dX5_readNumber_140 hv hP hD
            · have hv := hv.2 hc_12
              refine lv_iload_n hx hb dX5_readNumber_125 rfl (lv_at hl 0 rfl) ?_
              refine lv_iload_n hx hb dX5_readNumber_126 rfl (lv_at hl 2 rfl) ?_
              refine lv_iload_n hx hb dX5_readNumber_127 rfl (lv_at hl 3 rfl) ?_
              refine x_calliR (x_runSN (As := [.int x3_5, .int x, .int y]) (rest := []) (n := 3) ⟨hx, hb, hml, hown, hts⟩ (k_X7_within l G  _ x3_5 x y) gX5_readNumber_X7_within_n135 rfl kn_iRX7 kn_sX7_within (by decide) (by decide +kernel) ⟨Nat.le_trans (Nat.le_of_ble_eq_true rfl) hRf, Nat.le_trans (Nat.le_of_ble_eq_true rfl) hRl⟩ hKK hSS hS hA hP hD [] (by decide) rfl rfl hl.1 rfl (Nat.le_of_ble_eq_true rfl) dX5_readNumber_128) hP hD hS hA [] rfl (fun r_16 _ H locs hw hP hS => ?_)
              replace hw := hw.symm; subst hw
              refine lv_if_ne (tgt := 139) hx hb dX5_readNumber_131 (by decide) (fun hc_17 => ?_) (fun hc_17 => ?_)
              · have hv := hv.1 (tv_eqn.mp hc_17)
                refine lv_iload_n hx hb dX5_readNumber_139 rfl (lv_at hl 0 rfl) ?_
                exact x_iret (v := x3_5) (ge04_4, xa2_3, xg, xf) hQ hx hb hr hlocks hS dX5_readNumber_140 hv hP hD
              · have hv := hv.2 (tv_eq.mp hc_17)
                refine lv_aload_n hx hb dX5_readNumber_134 rfl (lv_at hl 1 rfl) ?_
                refine lv_iconst (v := 2) hx hb dX5_readNumber_135 (by decide) ?_
                obtain ⟨hp, hv⟩ := hv
                refine x_callv (wr := []) (w' := fun (u : (Int32) × (Int32)) => [(e0, .inr (5, [.ref e01, .int xl, .int u.2, .int u.1, .int ge04_4, .int xa2_3, .int xr, .int xn])), aB G e01 400 bt]) (x_runV (As := [.int 2]) (rest := []) (n := 1) (C := RX5) (ci := 5) ⟨hx, hb, hml, hown, hts⟩ (k_X5_fail l G e0 e01 _ bt xl xf xg ge04_4 xa2_3 xr xn 2 hp) gX5_readNumber_X5_fail rfl (by decide +kernel) ⟨Nat.le_trans (Nat.le_of_ble_eq_true rfl) hRf, Nat.le_trans (Nat.le_of_ble_eq_true rfl) hRl⟩ hKK hSS hS hA hP hD [0, 1] (by decide) rfl rfl rfl 0 rfl rfl hl.1 rfl (Nat.le_of_ble_eq_true rfl) dX5_readNumber_136) hP hD hS hA [0, 1] [] [0, 1] rfl rfl (by decide) (by decide) (by decide) (fun _ => rfl) (fun  u H locs hw hP hD hS => ?_)
                obtain ⟨xg2_19, xf2_20⟩ := u
                have hP : va_P G.1 vwCl [(e0, .inr (5, [.ref e01, .int xl, .int xf2_20, .int xg2_19, .int ge04_4, .int xa2_3, .int xr, .int xn])), aB G e01 400 bt] H := hP
                have hD : va_D A [(e0, .inr (5, [.ref e01, .int xl, .int xf2_20, .int xg2_19, .int ge04_4, .int xa2_3, .int xr, .int xn])), aB G e01 400 bt] := hD
                have hv := hv xg2_19 xf2_20 hw
                refine lv_iload_n hx hb dX5_readNumber_139 rfl (lv_at hl 0 rfl) ?_
                exact x_iret (v := x3_5) (ge04_4, xa2_3, xg2_19, xf2_20) hQ hx hb hr hlocks hS dX5_readNumber_140 hv hP hD
          · have hv := hv.2 hc_11
            refine lv_aload_n hx hb dX5_readNumber_104 rfl (lv_at hl 1 rfl) ?_
            refine lv_iconst (v := 1) hx hb dX5_readNumber_105 (by decide) ?_
            obtain ⟨hp, hv⟩ := hv
            refine x_callv (wr := []) (w' := fun (u : (Int32) × (Int32)) => [(e0, .inr (5, [.ref e01, .int xl, .int u.2, .int u.1, .int ge04_4, .int xa2_3, .int xr, .int xn])), aB G e01 400 bt]) (x_runV (As := [.int 1]) (rest := []) (n := 1) (C := RX5) (ci := 5) ⟨hx, hb, hml, hown, hts⟩ (k_X5_fail l G e0 e01 _ bt xl xf xg ge04_4 xa2_3 xr xn 1 hp) gX5_readNumber_X5_fail rfl (by decide +kernel) ⟨Nat.le_trans (Nat.le_of_ble_eq_true rfl) hRf, Nat.le_trans (Nat.le_of_ble_eq_true rfl) hRl⟩ hKK hSS hS hA hP hD [0, 1] (by decide) rfl rfl rfl 0 rfl rfl hl.1 rfl (Nat.le_of_ble_eq_true rfl) dX5_readNumber_106) hP hD hS hA [0, 1] [] [0, 1] rfl rfl (by decide) (by decide) (by decide) (fun _ => rfl) (fun  u H locs hw hP hD hS => ?_)
            obtain ⟨xg2_22, xf2_23⟩ := u
            have hP : va_P G.1 vwCl [(e0, .inr (5, [.ref e01, .int xl, .int xf2_23, .int xg2_22, .int ge04_4, .int xa2_3, .int xr, .int xn])), aB G e01 400 bt] H := hP
            have hD : va_D A [(e0, .inr (5, [.ref e01, .int xl, .int xf2_23, .int xg2_22, .int ge04_4, .int xa2_3, .int xr, .int xn])), aB G e01 400 bt] := hD
            have hv := hv xg2_22 xf2_23 hw
            refine lv_goto (tgt := 139) hx hb dX5_readNumber_109 (by decide) ?_
            refine lv_iload_n hx hb dX5_readNumber_139 rfl (lv_at hl 0 rfl) ?_
            exact x_iret (v := x3_5) (ge04_4, xa2_3, xg2_22, xf2_23) hQ hx hb hr hlocks hS dX5_readNumber_140 hv hP hD
        · have hv := hv.2 hc_10
          refine lv_aload_n hx hb dX5_readNumber_34 rfl (lv_at hl 1 rfl) ?_
          refine va_get (D := G.1) (ci := 5) (v := .ref e01) (C := RX5) (T := TX5) (N := 8) hx hb hts hinX5 hown hKK.1 hP 0 rfl rfl 0 (by decide) kl9 (fun _ h9 => h9) rfl dX5_readNumber_35 ?_
          refine lv_aload_n hx hb dX5_readNumber_38 rfl (lv_at hl 1 rfl) ?_
          refine va_get (D := G.1) (ci := 5) (v := .int ge04_4) (C := RX5) (T := TX5) (N := 8) hx hb hts hinX5 hown hKK.1 hP 0 rfl rfl 4 (by decide) kl22 (fun _ h9 => h9) rfl dX5_readNumber_39 ?_
          obtain ⟨hin, hv⟩ := hv
          refine va_bald hx hb hKK.1 hP 1 1 rfl rfl hin dX5_readNumber_42 ?_
          refine lv_bipush (v := 48) hx hb dX5_readNumber_43 (by decide) ?_
          refine lv_icmp_lt (tgt := 93) hx hb dX5_readNumber_45 (by decide) (fun hc_24 => ?_) (fun hc_24 => ?_)
          · have hv := hv.1 hc_24
            refine lv_aload_n hx hb dX5_readNumber_93 rfl (lv_at hl 1 rfl) ?_
            refine va_get (D := G.1) (ci := 5) (v := .int ge04_4) (C := RX5) (T := TX5) (N := 8) hx hb hts hinX5 hown hKK.1 hP 0 rfl rfl 4 (by decide) kl22 (fun _ h9 => h9) rfl dX5_readNumber_94 ?_
            refine lv_aload_n hx hb dX5_readNumber_97 rfl (lv_at hl 1 rfl) ?_
            refine va_get (D := G.1) (ci := 5) (v := .int xa2_3) (C := RX5) (T := TX5) (N := 8) hx hb hts hinX5 hown hKK.1 hP 0 rfl rfl 5 (by decide) kl124 (fun _ h9 => h9) rfl dX5_readNumber_98 ?_
            refine lv_icmp_ne (tgt := 112) hx hb dX5_readNumber_101 (by decide) (fun hc_25 => ?_) (fun hc_25 => ?_)
            · have hv := hv.1 hc_25
              refine lv_aload_n hx hb dX5_readNumber_112 rfl (lv_at hl 1 rfl) ?_
              refine va_get (D := G.1) (ci := 5) (v := .int ge04_4) (C := RX5) (T := TX5) (N := 8) hx hb hts hinX5 hown hKK.1 hP 0 rfl rfl 4 (by decide) kl22 (fun _ h9 => h9) rfl dX5_readNumber_113 ?_
              refine lv_aload_n hx hb dX5_readNumber_116 rfl (lv_at hl 1 rfl) ?_
              refine va_get (D := G.1) (ci := 5) (v := .int xa2_3) (C := RX5) (T := TX5) (N := 8) hx hb hts hinX5 hown hKK.1 hP 0 rfl rfl 5 (by decide) kl124 (fun _ h9 => h9) rfl dX5_readNumber_117 ?_
              refine lv_isub hx hb dX5_readNumber_120 ?_
              refine lv_iconst (v := 4) hx hb dX5_readNumber_121 (by decide) ?_
              refine lv_icmp_gt (tgt := 134) hx hb dX5_readNumber_122 (by decide) (fun hc_26 => ?_) (fun hc_26 => ?_)
              · have hv := hv.1 hc_26
                refine lv_aload_n hx hb dX5_readNumber_134 rfl (lv_at hl 1 rfl) ?_
                refine lv_iconst (v := 2) hx hb dX5_readNumber_135 (by decide) ?_
                obtain ⟨hp, hv⟩ := hv
                refine x_callv (wr := []) (w' := fun (u : (Int32) × (Int32)) => [(e0, .inr (5, [.ref e01, .int xl, .int u.2, .int u.1, .int ge04_4, .int xa2_3, .int xr, .int xn])), aB G e01 400 bt]) (x_runV (As := [.int 2]) (rest := []) (n := 1) (C := RX5) (ci := 5) ⟨hx, hb, hml, hown, hts⟩ (k_X5_fail l G e0 e01 _ bt xl xf xg ge04_4 xa2_3 xr xn 2 hp) gX5_readNumber_X5_fail rfl (by decide +kernel) ⟨Nat.le_trans (Nat.le_of_ble_eq_true rfl) hRf, Nat.le_trans (Nat.le_of_ble_eq_true rfl) hRl⟩ hKK hSS hS hA hP hD [0, 1] (by decide) rfl rfl rfl 0 rfl rfl hl.1 rfl (Nat.le_of_ble_eq_true rfl) dX5_readNumber_136) hP hD hS hA [0, 1] [] [0, 1] rfl rfl (by decide) (by decide) (by decide) (fun _ => rfl) (fun  u H locs hw hP hD hS => ?_)
                obtain ⟨xg2_28, xf2_29⟩ := u
                have hP : va_P G.1 vwCl [(e0, .inr (5, [.ref e01, .int xl, .int xf2_29, .int xg2_28, .int ge04_4, .int xa2_3, .int xr, .int xn])), aB G e01 400 bt] H := hP
                have hD : va_D A [(e0, .inr (5, [.ref e01, .int xl, .int xf2_29, .int xg2_28, .int ge04_4, .int xa2_3, .int xr, .int xn])), aB G e01 400 bt] := hD
                have hv := hv xg2_28 xf2_29 hw
                refine lv_iload_n hx hb dX5_readNumber_139 rfl (lv_at hl 0 rfl) ?_
                exact x_iret (v := x3_5) (ge04_4, xa2_3, xg2_28, xf2_29) hQ hx hb hr hlocks hS dX5_readNumber_140 hv hP hD
              · have hv := hv.2 hc_26
                refine lv_iload_n hx hb dX5_readNumber_125 rfl (lv_at hl 0 rfl) ?_
                refine lv_iload_n hx hb dX5_readNumber_126 rfl (lv_at hl 2 rfl) ?_
                refine lv_iload_n hx hb dX5_readNumber_127 rfl (lv_at hl 3 rfl) ?_
                refine x_calliR (x_runSN (As := [.int x3_5, .int x, .int y]) (rest := []) (n := 3) ⟨hx, hb, hml, hown, hts⟩ (k_X7_within l G  _ x3_5 x y) gX5_readNumber_X7_within_n135 rfl kn_iRX7 kn_sX7_within (by decide) (by decide +kernel) ⟨Nat.le_trans (Nat.le_of_ble_eq_true rfl) hRf, Nat.le_trans (Nat.le_of_ble_eq_true rfl) hRl⟩ hKK hSS hS hA hP hD [] (by decide) rfl rfl hl.1 rfl (Nat.le_of_ble_eq_true rfl) dX5_readNumber_128) hP hD hS hA [] rfl (fun r_30 _ H locs hw hP hS => ?_)
                replace hw := hw.symm; subst hw
                refine lv_if_ne (tgt := 139) hx hb dX5_readNumber_131 (by decide) (fun hc_31 => ?_) (fun hc_31 => ?_)
                · have hv := hv.1 (tv_eqn.mp hc_31)
                  refine lv_iload_n hx hb dX5_readNumber_139 rfl (lv_at hl 0 rfl) ?_
                  exact x_iret (v := x3_5) (ge04_4, xa2_3, xg, xf) hQ hx hb hr hlocks hS dX5_readNumber_140 hv hP hD
                · have hv := hv.2 (tv_eq.mp hc_31)
                  refine lv_aload_n hx hb dX5_readNumber_134 rfl (lv_at hl 1 rfl) ?_
                  refine lv_iconst (v := 2) hx hb dX5_readNumber_135 (by decide) ?_
                  obtain ⟨hp, hv⟩ := hv
                  refine x_callv (wr := []) (w' := fun (u : (Int32) × (Int32)) => [(e0, .inr (5, [.ref e01, .int xl, .int u.2, .int u.1, .int ge04_4, .int xa2_3, .int xr, .int xn])), aB G e01 400 bt]) (x_runV (As := [.int 2]) (rest := []) (n := 1) (C := RX5) (ci := 5) ⟨hx, hb, hml, hown, hts⟩ (k_X5_fail l G e0 e01 _ bt xl xf xg ge04_4 xa2_3 xr xn 2 hp) gX5_readNumber_X5_fail rfl (by decide +kernel) ⟨Nat.le_trans (Nat.le_of_ble_eq_true rfl) hRf, Nat.le_trans (Nat.le_of_ble_eq_true rfl) hRl⟩ hKK hSS hS hA hP hD [0, 1] (by decide) rfl rfl rfl 0 rfl rfl hl.1 rfl (Nat.le_of_ble_eq_true rfl) dX5_readNumber_136) hP hD hS hA [0, 1] [] [0, 1] rfl rfl (by decide) (by decide) (by decide) (fun _ => rfl) (fun  u H locs hw hP hD hS => ?_)
                  obtain ⟨xg2_33, xf2_34⟩ := u
                  have hP : va_P G.1 vwCl [(e0, .inr (5, [.ref e01, .int xl, .int xf2_34, .int xg2_33, .int ge04_4, .int xa2_3, .int xr, .int xn])), aB G e01 400 bt] H := hP
                  have hD : va_D A [(e0, .inr (5, [.ref e01, .int xl, .int xf2_34, .int xg2_33, .int ge04_4, .int xa2_3, .int xr, .int xn])), aB G e01 400 bt] := hD
                  have hv := hv xg2_33 xf2_34 hw
                  refine lv_iload_n hx hb dX5_readNumber_139 rfl (lv_at hl 0 rfl) ?_
                  exact x_iret (v := x3_5) (ge04_4, xa2_3, xg2_33, xf2_34) hQ hx hb hr hlocks hS dX5_readNumber_140 hv hP hD
            · have hv := hv.2 hc_25
              refine lv_aload_n hx hb dX5_readNumber_104 rfl (lv_at hl 1 rfl) ?_
              refine lv_iconst (v := 1) hx hb dX5_readNumber_105 (by decide) ?_
              obtain ⟨hp, hv⟩ := hv
              refine x_callv (wr := []) (w' := fun (u : (Int32) × (Int32)) => [(e0, .inr (5, [.ref e01, .int xl, .int u.2, .int u.1, .int ge04_4, .int xa2_3, .int xr, .int xn])), aB G e01 400 bt]) (x_runV (As := [.int 1]) (rest := []) (n := 1) (C := RX5) (ci := 5) ⟨hx, hb, hml, hown, hts⟩ (k_X5_fail l G e0 e01 _ bt xl xf xg ge04_4 xa2_3 xr xn 1 hp) gX5_readNumber_X5_fail rfl (by decide +kernel) ⟨Nat.le_trans (Nat.le_of_ble_eq_true rfl) hRf, Nat.le_trans (Nat.le_of_ble_eq_true rfl) hRl⟩ hKK hSS hS hA hP hD [0, 1] (by decide) rfl rfl rfl 0 rfl rfl hl.1 rfl (Nat.le_of_ble_eq_true rfl) dX5_readNumber_106) hP hD hS hA [0, 1] [] [0, 1] rfl rfl (by decide) (by decide) (by decide) (fun _ => rfl) (fun  u H locs hw hP hD hS => ?_)
              obtain ⟨xg2_36, xf2_37⟩ := u
              have hP : va_P G.1 vwCl [(e0, .inr (5, [.ref e01, .int xl, .int xf2_37, .int xg2_36, .int ge04_4, .int xa2_3, .int xr, .int xn])), aB G e01 400 bt] H := hP
              have hD : va_D A [(e0, .inr (5, [.ref e01, .int xl, .int xf2_37, .int xg2_36, .int ge04_4, .int xa2_3, .int xr, .int xn])), aB G e01 400 bt] := hD
              have hv := hv xg2_36 xf2_37 hw
              refine lv_goto (tgt := 139) hx hb dX5_readNumber_109 (by decide) ?_
              refine lv_iload_n hx hb dX5_readNumber_139 rfl (lv_at hl 0 rfl) ?_
              exact x_iret (v := x3_5) (ge04_4, xa2_3, xg2_36, xf2_37) hQ hx hb hr hlocks hS dX5_readNumber_140 hv hP hD
          · have hv := hv.2 hc_24
            refine lv_aload_n hx hb dX5_readNumber_48 rfl (lv_at hl 1 rfl) ?_
            refine va_get (D := G.1) (ci := 5) (v := .ref e01) (C := RX5) (T := TX5) (N := 8) hx hb hts hinX5 hown hKK.1 hP 0 rfl rfl 0 (by decide) kl9 (fun _ h9 => h9) rfl dX5_readNumber_49 ?_
            refine lv_aload_n hx hb dX5_readNumber_52 rfl (lv_at hl 1 rfl) ?_
            refine va_get (D := G.1) (ci := 5) (v := .int ge04_4) (C := RX5) (T := TX5) (N := 8) hx hb hts hinX5 hown hKK.1 hP 0 rfl rfl 4 (by decide) kl22 (fun _ h9 => h9) rfl dX5_readNumber_53 ?_
            obtain ⟨hin, hv⟩ := hv
            refine va_bald hx hb hKK.1 hP 1 1 rfl rfl hin dX5_readNumber_56 ?_
            refine lv_bipush (v := 57) hx hb dX5_readNumber_57 (by decide) ?_
            refine lv_icmp_gt (tgt := 93) hx hb dX5_readNumber_59 (by decide) (fun hc_38 => ?_) (fun hc_38 => ?_)
            · have hv := hv.1 hc_38
              refine lv_aload_n hx hb dX5_readNumber_93 rfl (lv_at hl 1 rfl) ?_
              refine va_get (D := G.1) (ci := 5) (v := .int ge04_4) (C := RX5) (T := TX5) (N := 8) hx hb hts hinX5 hown hKK.1 hP 0 rfl rfl 4 (by decide) kl22 (fun _ h9 => h9) rfl dX5_readNumber_94 ?_
              refine lv_aload_n hx hb dX5_readNumber_97 rfl (lv_at hl 1 rfl) ?_
              refine va_get (D := G.1) (ci := 5) (v := .int xa2_3) (C := RX5) (T := TX5) (N := 8) hx hb hts hinX5 hown hKK.1 hP 0 rfl rfl 5 (by decide) kl124 (fun _ h9 => h9) rfl dX5_readNumber_98 ?_
              refine lv_icmp_ne (tgt := 112) hx hb dX5_readNumber_101 (by decide) (fun hc_39 => ?_) (fun hc_39 => ?_)
              · have hv := hv.1 hc_39
                refine lv_aload_n hx hb dX5_readNumber_112 rfl (lv_at hl 1 rfl) ?_
                refine va_get (D := G.1) (ci := 5) (v := .int ge04_4) (C := RX5) (T := TX5) (N := 8) hx hb hts hinX5 hown hKK.1 hP 0 rfl rfl 4 (by decide) kl22 (fun _ h9 => h9) rfl dX5_readNumber_113 ?_
                refine lv_aload_n hx hb dX5_readNumber_116 rfl (lv_at hl 1 rfl) ?_
                refine va_get (D := G.1) (ci := 5) (v := .int xa2_3) (C := RX5) (T := TX5) (N := 8) hx hb hts hinX5 hown hKK.1 hP 0 rfl rfl 5 (by decide) kl124 (fun _ h9 => h9) rfl dX5_readNumber_117 ?_
                refine lv_isub hx hb dX5_readNumber_120 ?_
                refine lv_iconst (v := 4) hx hb dX5_readNumber_121 (by decide) ?_
                refine lv_icmp_gt (tgt := 134) hx hb dX5_readNumber_122 (by decide) (fun hc_40 => ?_) (fun hc_40 => ?_)
                · have hv := hv.1 hc_40
                  refine lv_aload_n hx hb dX5_readNumber_134 rfl (lv_at hl 1 rfl) ?_
                  refine lv_iconst (v := 2) hx hb dX5_readNumber_135 (by decide) ?_
                  obtain ⟨hp, hv⟩ := hv
                  refine x_callv (wr := []) (w' := fun (u : (Int32) × (Int32)) => [(e0, .inr (5, [.ref e01, .int xl, .int u.2, .int u.1, .int ge04_4, .int xa2_3, .int xr, .int xn])), aB G e01 400 bt]) (x_runV (As := [.int 2]) (rest := []) (n := 1) (C := RX5) (ci := 5) ⟨hx, hb, hml, hown, hts⟩ (k_X5_fail l G e0 e01 _ bt xl xf xg ge04_4 xa2_3 xr xn 2 hp) gX5_readNumber_X5_fail rfl (by decide +kernel) ⟨Nat.le_trans (Nat.le_of_ble_eq_true rfl) hRf, Nat.le_trans (Nat.le_of_ble_eq_true rfl) hRl⟩ hKK hSS hS hA hP hD [0, 1] (by decide) rfl rfl rfl 0 rfl rfl hl.1 rfl (Nat.le_of_ble_eq_true rfl) dX5_readNumber_136) hP hD hS hA [0, 1] [] [0, 1] rfl rfl (by decide) (by decide) (by decide) (fun _ => rfl) (fun  u H locs hw hP hD hS => ?_)
                  obtain ⟨xg2_42, xf2_43⟩ := u
                  have hP : va_P G.1 vwCl [(e0, .inr (5, [.ref e01, .int xl, .int xf2_43, .int xg2_42, .int ge04_4, .int xa2_3, .int xr, .int xn])), aB G e01 400 bt] H := hP
                  have hD : va_D A [(e0, .inr (5, [.ref e01, .int xl, .int xf2_43, .int xg2_42, .int ge04_4, .int xa2_3, .int xr, .int xn])), aB G e01 400 bt] := hD
                  have hv := hv xg2_42 xf2_43 hw
                  refine lv_iload_n hx hb dX5_readNumber_139 rfl (lv_at hl 0 rfl) ?_
                  exact x_iret (v := x3_5) (ge04_4, xa2_3, xg2_42, xf2_43) hQ hx hb hr hlocks hS dX5_readNumber_140 hv hP hD
                · have hv := hv.2 hc_40
                  refine lv_iload_n hx hb dX5_readNumber_125 rfl (lv_at hl 0 rfl) ?_
                  refine lv_iload_n hx hb dX5_readNumber_126 rfl (lv_at hl 2 rfl) ?_
                  refine lv_iload_n hx hb dX5_readNumber_127 rfl (lv_at hl 3 rfl) ?_
                  refine x_calliR (x_runSN (As := [.int x3_5, .int x, .int y]) (rest := []) (n := 3) ⟨hx, hb, hml, hown, hts⟩ (k_X7_within l G  _ x3_5 x y) gX5_readNumber_X7_within_n135 rfl kn_iRX7 kn_sX7_within (by decide) (by decide +kernel) ⟨Nat.le_trans (Nat.le_of_ble_eq_true rfl) hRf, Nat.le_trans (Nat.le_of_ble_eq_true rfl) hRl⟩ hKK hSS hS hA hP hD [] (by decide) rfl rfl hl.1 rfl (Nat.le_of_ble_eq_true rfl) dX5_readNumber_128) hP hD hS hA [] rfl (fun r_44 _ H locs hw hP hS => ?_)
                  replace hw := hw.symm; subst hw
                  refine lv_if_ne (tgt := 139) hx hb dX5_readNumber_131 (by decide) (fun hc_45 => ?_) (fun hc_45 => ?_)
                  · have hv := hv.1 (tv_eqn.mp hc_45)
                    refine lv_iload_n hx hb dX5_readNumber_139 rfl (lv_at hl 0 rfl) ?_
                    exact x_iret (v := x3_5) (ge04_4, xa2_3, xg, xf) hQ hx hb hr hlocks hS dX5_readNumber_140 hv hP hD
                  · have hv := hv.2 (tv_eq.mp hc_45)
                    refine lv_aload_n hx hb dX5_readNumber_134 rfl (lv_at hl 1 rfl) ?_
                    refine lv_iconst (v := 2) hx hb dX5_readNumber_135 (by decide) ?_
                    obtain ⟨hp, hv⟩ := hv
                    refine x_callv (wr := []) (w' := fun (u : (Int32) × (Int32)) => [(e0, .inr (5, [.ref e01, .int xl, .int u.2, .int u.1, .int ge04_4, .int xa2_3, .int xr, .int xn])), aB G e01 400 bt]) (x_runV (As := [.int 2]) (rest := []) (n := 1) (C := RX5) (ci := 5) ⟨hx, hb, hml, hown, hts⟩ (k_X5_fail l G e0 e01 _ bt xl xf xg ge04_4 xa2_3 xr xn 2 hp) gX5_readNumber_X5_fail rfl (by decide +kernel) ⟨Nat.le_trans (Nat.le_of_ble_eq_true rfl) hRf, Nat.le_trans (Nat.le_of_ble_eq_true rfl) hRl⟩ hKK hSS hS hA hP hD [0, 1] (by decide) rfl rfl rfl 0 rfl rfl hl.1 rfl (Nat.le_of_ble_eq_true rfl) dX5_readNumber_136) hP hD hS hA [0, 1] [] [0, 1] rfl rfl (by decide) (by decide) (by decide) (fun _ => rfl) (fun  u H locs hw hP hD hS => ?_)
                    obtain ⟨xg2_47, xf2_48⟩ := u
                    have hP : va_P G.1 vwCl [(e0, .inr (5, [.ref e01, .int xl, .int xf2_48, .int xg2_47, .int ge04_4, .int xa2_3, .int xr, .int xn])), aB G e01 400 bt] H := hP
                    have hD : va_D A [(e0, .inr (5, [.ref e01, .int xl, .int xf2_48, .int xg2_47, .int ge04_4, .int xa2_3, .int xr, .int xn])), aB G e01 400 bt] := hD
                    have hv := hv xg2_47 xf2_48 hw
                    refine lv_iload_n hx hb dX5_readNumber_139 rfl (lv_at hl 0 rfl) ?_
                    exact x_iret (v := x3_5) (ge04_4, xa2_3, xg2_47, xf2_48) hQ hx hb hr hlocks hS dX5_readNumber_140 hv hP hD
              · have hv := hv.2 hc_39
                refine lv_aload_n hx hb dX5_readNumber_104 rfl (lv_at hl 1 rfl) ?_
                refine lv_iconst (v := 1) hx hb dX5_readNumber_105 (by decide) ?_
                obtain ⟨hp, hv⟩ := hv
                refine x_callv (wr := []) (w' := fun (u : (Int32) × (Int32)) => [(e0, .inr (5, [.ref e01, .int xl, .int u.2, .int u.1, .int ge04_4, .int xa2_3, .int xr, .int xn])), aB G e01 400 bt]) (x_runV (As := [.int 1]) (rest := []) (n := 1) (C := RX5) (ci := 5) ⟨hx, hb, hml, hown, hts⟩ (k_X5_fail l G e0 e01 _ bt xl xf xg ge04_4 xa2_3 xr xn 1 hp) gX5_readNumber_X5_fail rfl (by decide +kernel) ⟨Nat.le_trans (Nat.le_of_ble_eq_true rfl) hRf, Nat.le_trans (Nat.le_of_ble_eq_true rfl) hRl⟩ hKK hSS hS hA hP hD [0, 1] (by decide) rfl rfl rfl 0 rfl rfl hl.1 rfl (Nat.le_of_ble_eq_true rfl) dX5_readNumber_106) hP hD hS hA [0, 1] [] [0, 1] rfl rfl (by decide) (by decide) (by decide) (fun _ => rfl) (fun  u H locs hw hP hD hS => ?_)
                obtain ⟨xg2_50, xf2_51⟩ := u
                have hP : va_P G.1 vwCl [(e0, .inr (5, [.ref e01, .int xl, .int xf2_51, .int xg2_50, .int ge04_4, .int xa2_3, .int xr, .int xn])), aB G e01 400 bt] H := hP
                have hD : va_D A [(e0, .inr (5, [.ref e01, .int xl, .int xf2_51, .int xg2_50, .int ge04_4, .int xa2_3, .int xr, .int xn])), aB G e01 400 bt] := hD
                have hv := hv xg2_50 xf2_51 hw
                refine lv_goto (tgt := 139) hx hb dX5_readNumber_109 (by decide) ?_
                refine lv_iload_n hx hb dX5_readNumber_139 rfl (lv_at hl 0 rfl) ?_
                exact x_iret (v := x3_5) (ge04_4, xa2_3, xg2_50, xf2_51) hQ hx hb hr hlocks hS dX5_readNumber_140 hv hP hD
            · have hv := hv.2 hc_38
              refine lv_bipush (v := 10) hx hb dX5_readNumber_62 (by decide) ?_
              refine lv_iload_n hx hb dX5_readNumber_64 rfl (lv_at hl 0 rfl) ?_
              refine lv_imul hx hb dX5_readNumber_65 ?_
              refine lv_aload_n hx hb dX5_readNumber_66 rfl (lv_at hl 1 rfl) ?_
              refine va_get (D := G.1) (ci := 5) (v := .ref e01) (C := RX5) (T := TX5) (N := 8) hx hb hts hinX5 hown hKK.1 hP 0 rfl rfl 0 (by decide) kl9 (fun _ h9 => h9) rfl dX5_readNumber_67 ?_
              refine lv_aload_n hx hb dX5_readNumber_70 rfl (lv_at hl 1 rfl) ?_
              refine va_get (D := G.1) (ci := 5) (v := .int ge04_4) (C := RX5) (T := TX5) (N := 8) hx hb hts hinX5 hown hKK.1 hP 0 rfl rfl 4 (by decide) kl22 (fun _ h9 => h9) rfl dX5_readNumber_71 ?_
              obtain ⟨hin, hv⟩ := hv
              refine va_bald hx hb hKK.1 hP 1 1 rfl rfl hin dX5_readNumber_74 ?_
              refine lv_iadd hx hb dX5_readNumber_75 ?_
              refine lv_bipush (v := 48) hx hb dX5_readNumber_76 (by decide) ?_
              refine lv_isub hx hb dX5_readNumber_78 ?_
              refine lv_istore_n (lv' := [(3, .int (((10 * x3_5) + (bt ge04_4.toNatClampNeg)) - 48)), (0, .ref e0), (1, .int x), (2, .int y)]) hx hb dX5_readNumber_79 rfl hl (by decide) rfl (fun ls hl => ?_)
              refine lv_aload_n hx hb dX5_readNumber_80 rfl (lv_at hl 1 rfl) ?_
              refine lv_dup hx hb dX5_readNumber_81 rfl ?_
              refine va_get (D := G.1) (ci := 5) (v := .int ge04_4) (C := RX5) (T := TX5) (N := 8) hx hb hts hinX5 hown hKK.1 hP 0 rfl rfl 4 (by decide) kl22 (fun _ h9 => h9) rfl dX5_readNumber_82 ?_
              refine lv_iconst (v := 1) hx hb dX5_readNumber_85 (by decide) ?_
              refine lv_iadd hx hb dX5_readNumber_86 ?_
              refine va_put (D := G.1) (ci := 5) (v := .int (ge04_4 + 1)) (ty := .int) (C := RX5) (T := TX5) (N := 8) hx hb hts hinX5 tyX5 tyX5_ok nmX5 hown hKK.1 hP hD hS 0 rfl rfl 4 (by decide) kl22 (fun _ h9 => h9) rfl (by decide +kernel) rfl rfl (Nat.le_of_ble_eq_true rfl) dX5_readNumber_87 (fun H locs hP hD hS => ?_)
              have hP : va_P G.1 vwCl [(e0, .inr (5, [.ref e01, .int xl, .int xf, .int xg, .int (ge04_4 + 1), .int xa2_3, .int xr, .int xn])), aB G e01 400 bt] H := hP
              have hD : va_D A [(e0, .inr (5, [.ref e01, .int xl, .int xf, .int xg, .int (ge04_4 + 1), .int xa2_3, .int xr, .int xn])), aB G e01 400 bt] := hD
              refine lv_goto (tgt := 23) hx hb dX5_readNumber_90 (by decide) ?_
              exact ih_8 _ _ _ _ _ (Nat.lt_of_lt_of_le hv.2 (Nat.le_of_lt_succ hI_9)) hv.1 hP hD hS hl
    exact Lm_54 _ _ _ _ _ _ (Nat.lt_succ_self _) hi0 hP hD hS hl
  · have hv := hv.2 hc_1
    refine lv_iload_n hx hb dX5_readNumber_7 rfl (lv_at hl 1 rfl) ?_
    exact x_iret (v := x) (xa, xt, xg, xf) hQ hx hb hr hlocks hS dX5_readNumber_8 hv hP hD
theorem k_X5_readNumber (l : Launch) (G : Gt) (e0 e01 : Nat) (sz : Nat) (bt : Nat → Int32) (xl : Int32) (xf : Int32) (xg : Int32) (xa : Int32) (xt : Int32) (xr : Int32) (xn : Int32) (x : Int32) (y : Int32) (hp : True) : MetI l yX5_readNumber wsX5_readNumber 1 22 G [.ref e0, .int x, .int y] [(e0, .inr (5, [.ref e01, .int xl, .int xf, .int xg, .int xa, .int xt, .int xr, .int xn])), aB G e01 400 bt] sz (fun (r : Int32) (u : (Int32) × (Int32) × (Int32) × (Int32)) => True) (fun (u : (Int32) × (Int32) × (Int32) × (Int32)) => [(e0, .inr (5, [.ref e01, .int xl, .int u.2.2.2, .int u.2.2.1, .int u.1, .int u.2.1, .int xr, .int xn])), aB G e01 400 bt]) :=
  c_X5_readNumber l G e0 e01 sz bt xl xf xg xa xt xr xn x y (by
    sorry)

set_option maxHeartbeats 4000000 in
set_option maxRecDepth 100000 in
theorem c_X5_readEnd (l : Launch) (G : Gt) (e0 e01 : Nat) (sz : Nat) (bt : Nat → Int32) (xl : Int32) (xf : Int32) (xg : Int32) (xa : Int32) (xt : Int32) (xr : Int32) (xn : Int32) (hv : (xg = 0 → (True) ∧ (∀ (xa2_3 : Int32), (True) → ((xl ≤ xa2_3 → (True) ∧ (∀ (xg2_6 : Int32) (xf2_7 : Int32), (True) → (True))) ∧ (¬ (xl ≤ xa2_3) → (vp_in xa2_3 400) ∧ ((¬ (bt xa2_3.toNatClampNeg) = 59 → (True) ∧ (∀ (xg2_10 : Int32) (xf2_11 : Int32), (True) → (True))) ∧ ((bt xa2_3.toNatClampNeg) = 59 → True)))))) ∧ (¬ (xg = 0) → True)) : MetV l yX5_readEnd wsX5_readEnd 1 21 G [.ref e0] [(e0, .inr (5, [.ref e01, .int xl, .int xf, .int xg, .int xa, .int xt, .int xr, .int xn])), aB G e01 400 bt] sz (fun (u : (Int32) × (Int32) × (Int32) × (Int32)) => True) (fun (u : (Int32) × (Int32) × (Int32) × (Int32)) => [(e0, .inr (5, [.ref e01, .int xl, .int u.2.2.2, .int u.2.2.1, .int u.1, .int u.2.1, .int xr, .int xn])), aB G e01 400 bt]) := by
  refine x_startV (cc := cX5_readEnd) (maxL := 1) (ret := none) (by decide) rfl (Nat.le_of_ble_eq_true rfl) ?_
  intro p e s m args below meth c A R Q ls hRf hRl hQ C hP hD hS hA hSS hl
  obtain ⟨hx, hb, hr, hml, hown, hts, hlocks, hKK⟩ := C
  have hown : s.vm.findClass RX5 = some m.cls := hown
  have hl : lv_has ls 1 [(0, .ref e0)] := hl
  have hinX5 : ∀ w ∈ u_ws RX5 TX5 8, w ∈ wsX5_readEnd := by decide +kernel
  have kl124 := hts (.fieldLink RX5 124 "WarmStones$Text" "tokenAt" "I") (by decide +kernel)
  have kl19 := hts (.fieldLink RX5 19 "WarmStones$Text" "length" "I") (by decide +kernel)
  have kl22 := hts (.fieldLink RX5 22 "WarmStones$Text" "at" "I") (by decide +kernel)
  have kl25 := hts (.fieldLink RX5 25 "WarmStones$Text" "fault" "I") (by decide +kernel)
  have kl9 := hts (.fieldLink RX5 9 "WarmStones$Text" "bytes" "[B") (by decide +kernel)
  refine lv_aload_n hx hb dX5_readEnd_0 rfl (lv_at hl 0 rfl) ?_
  refine va_get (D := G.1) (ci := 5) (v := .int xg) (C := RX5) (T := TX5) (N := 8) hx hb hts hinX5 hown hKK.1 hP 0 rfl rfl 3 (by decide) kl25 (fun _ h9 => h9) rfl dX5_readEnd_1 ?_
  refine lv_if_eq (tgt := 8) hx hb dX5_readEnd_4 (by decide) (fun hc_1 => ?_) (fun hc_1 => ?_)
  · have hv := hv.1 hc_1
    refine lv_aload_n hx hb dX5_readEnd_8 rfl (lv_at hl 0 rfl) ?_
    obtain ⟨hp, hv⟩ := hv
    refine x_callv (wr := []) (w' := fun (u : (Int32)) => [(e0, .inr (5, [.ref e01, .int xl, .int xf, .int xg, .int u, .int xt, .int xr, .int xn])), aB G e01 400 bt]) (x_runV (As := []) (rest := []) (n := 0) (C := RX5) (ci := 5) ⟨hx, hb, hml, hown, hts⟩ (k_X5_skipBlanks l G e0 e01 _ bt xl xf xg xa xt xr xn hp) gX5_readEnd_X5_skipBlanks rfl (by decide +kernel) ⟨Nat.le_trans (Nat.le_of_ble_eq_true rfl) hRf, Nat.le_trans (Nat.le_of_ble_eq_true rfl) hRl⟩ hKK hSS hS hA hP hD [0, 1] (by decide) rfl rfl rfl 0 rfl rfl hl.1 rfl (Nat.le_of_ble_eq_true rfl) dX5_readEnd_9) hP hD hS hA [0, 1] [] [0, 1] rfl rfl (by decide) (by decide) (by decide) (fun _ => rfl) (fun  u H locs hw hP hD hS => ?_)
    obtain ⟨xa2_3, rfl⟩ : ∃ z, z = u := ⟨_, rfl⟩
    have hP : va_P G.1 vwCl [(e0, .inr (5, [.ref e01, .int xl, .int xf, .int xg, .int xa2_3, .int xt, .int xr, .int xn])), aB G e01 400 bt] H := hP
    have hD : va_D A [(e0, .inr (5, [.ref e01, .int xl, .int xf, .int xg, .int xa2_3, .int xt, .int xr, .int xn])), aB G e01 400 bt] := hD
    have hv := hv xa2_3 hw
    refine lv_aload_n hx hb dX5_readEnd_12 rfl (lv_at hl 0 rfl) ?_
    refine lv_aload_n hx hb dX5_readEnd_13 rfl (lv_at hl 0 rfl) ?_
    refine va_get (D := G.1) (ci := 5) (v := .int xa2_3) (C := RX5) (T := TX5) (N := 8) hx hb hts hinX5 hown hKK.1 hP 0 rfl rfl 4 (by decide) kl22 (fun _ h9 => h9) rfl dX5_readEnd_14 ?_
    refine va_put (D := G.1) (ci := 5) (v := .int xa2_3) (ty := .int) (C := RX5) (T := TX5) (N := 8) hx hb hts hinX5 tyX5 tyX5_ok nmX5 hown hKK.1 hP hD hS 0 rfl rfl 5 (by decide) kl124 (fun _ h9 => h9) rfl (by decide +kernel) rfl rfl (Nat.le_of_ble_eq_true rfl) dX5_readEnd_17 (fun H locs hP hD hS => ?_)
    have hP : va_P G.1 vwCl [(e0, .inr (5, [.ref e01, .int xl, .int xf, .int xg, .int xa2_3, .int xa2_3, .int xr, .int xn])), aB G e01 400 bt] H := hP
    have hD : va_D A [(e0, .inr (5, [.ref e01, .int xl, .int xf, .int xg, .int xa2_3, .int xa2_3, .int xr, .int xn])), aB G e01 400 bt] := hD
    refine lv_aload_n hx hb dX5_readEnd_20 rfl (lv_at hl 0 rfl) ?_
    refine va_get (D := G.1) (ci := 5) (v := .int xa2_3) (C := RX5) (T := TX5) (N := 8) hx hb hts hinX5 hown hKK.1 hP 0 rfl rfl 4 (by decide) kl22 (fun _ h9 => h9) rfl dX5_readEnd_21 ?_
    refine lv_aload_n hx hb dX5_readEnd_24 rfl (lv_at hl 0 rfl) ?_
    refine va_get (D := G.1) (ci := 5) (v := .int xl) (C := RX5) (T := TX5) (N := 8) hx hb hts hinX5 hown hKK.1 hP 0 rfl rfl 1 (by decide) kl19 (fun _ h9 => h9) rfl dX5_readEnd_25 ?_
    refine lv_icmp_ge (tgt := 58) hx hb dX5_readEnd_28 (by decide) (fun hc_4 => ?_) (fun hc_4 => ?_)
    · have hv := hv.1 hc_4
      refine lv_aload_n hx hb dX5_readEnd_58 rfl (lv_at hl 0 rfl) ?_
      refine lv_iconst (v := 1) hx hb dX5_readEnd_59 (by decide) ?_
      obtain ⟨hp, hv⟩ := hv
      refine x_callv (wr := []) (w' := fun (u : (Int32) × (Int32)) => [(e0, .inr (5, [.ref e01, .int xl, .int u.2, .int u.1, .int xa2_3, .int xa2_3, .int xr, .int xn])), aB G e01 400 bt]) (x_runV (As := [.int 1]) (rest := []) (n := 1) (C := RX5) (ci := 5) ⟨hx, hb, hml, hown, hts⟩ (k_X5_fail l G e0 e01 _ bt xl xf xg xa2_3 xa2_3 xr xn 1 hp) gX5_readEnd_X5_fail rfl (by decide +kernel) ⟨Nat.le_trans (Nat.le_of_ble_eq_true rfl) hRf, Nat.le_trans (Nat.le_of_ble_eq_true rfl) hRl⟩ hKK hSS hS hA hP hD [0, 1] (by decide) rfl rfl rfl 0 rfl rfl hl.1 rfl (Nat.le_of_ble_eq_true rfl) dX5_readEnd_60) hP hD hS hA [0, 1] [] [0, 1] rfl rfl (by decide) (by decide) (by decide) (fun _ => rfl) (fun  u H locs hw hP hD hS => ?_)
      obtain ⟨xg2_6, xf2_7⟩ := u
      have hP : va_P G.1 vwCl [(e0, .inr (5, [.ref e01, .int xl, .int xf2_7, .int xg2_6, .int xa2_3, .int xa2_3, .int xr, .int xn])), aB G e01 400 bt] H := hP
      have hD : va_D A [(e0, .inr (5, [.ref e01, .int xl, .int xf2_7, .int xg2_6, .int xa2_3, .int xa2_3, .int xr, .int xn])), aB G e01 400 bt] := hD
      have hv := hv xg2_6 xf2_7 hw
      exact x_vret (xa2_3, xa2_3, xg2_6, xf2_7) hQ hx hb hr hlocks hS dX5_readEnd_63 hv hP hD
    · have hv := hv.2 hc_4
      refine lv_aload_n hx hb dX5_readEnd_31 rfl (lv_at hl 0 rfl) ?_
      refine va_get (D := G.1) (ci := 5) (v := .ref e01) (C := RX5) (T := TX5) (N := 8) hx hb hts hinX5 hown hKK.1 hP 0 rfl rfl 0 (by decide) kl9 (fun _ h9 => h9) rfl dX5_readEnd_32 ?_
      refine lv_aload_n hx hb dX5_readEnd_35 rfl (lv_at hl 0 rfl) ?_
      refine va_get (D := G.1) (ci := 5) (v := .int xa2_3) (C := RX5) (T := TX5) (N := 8) hx hb hts hinX5 hown hKK.1 hP 0 rfl rfl 4 (by decide) kl22 (fun _ h9 => h9) rfl dX5_readEnd_36 ?_
      obtain ⟨hin, hv⟩ := hv
      refine va_bald hx hb hKK.1 hP 1 1 rfl rfl hin dX5_readEnd_39 ?_
      refine lv_bipush (v := 59) hx hb dX5_readEnd_40 (by decide) ?_
      refine lv_icmp_ne (tgt := 58) hx hb dX5_readEnd_42 (by decide) (fun hc_8 => ?_) (fun hc_8 => ?_)
      · have hv := hv.1 hc_8
        refine lv_aload_n hx hb dX5_readEnd_58 rfl (lv_at hl 0 rfl) ?_
        refine lv_iconst (v := 1) hx hb dX5_readEnd_59 (by decide) ?_
        obtain ⟨hp, hv⟩ := hv
        refine x_callv (wr := []) (w' := fun (u : (Int32) × (Int32)) => [(e0, .inr (5, [.ref e01, .int xl, .int u.2, .int u.1, .int xa2_3, .int xa2_3, .int xr, .int xn])), aB G e01 400 bt]) (x_runV (As := [.int 1]) (rest := []) (n := 1) (C := RX5) (ci := 5) ⟨hx, hb, hml, hown, hts⟩ (k_X5_fail l G e0 e01 _ bt xl xf xg xa2_3 xa2_3 xr xn 1 hp) gX5_readEnd_X5_fail rfl (by decide +kernel) ⟨Nat.le_trans (Nat.le_of_ble_eq_true rfl) hRf, Nat.le_trans (Nat.le_of_ble_eq_true rfl) hRl⟩ hKK hSS hS hA hP hD [0, 1] (by decide) rfl rfl rfl 0 rfl rfl hl.1 rfl (Nat.le_of_ble_eq_true rfl) dX5_readEnd_60) hP hD hS hA [0, 1] [] [0, 1] rfl rfl (by decide) (by decide) (by decide) (fun _ => rfl) (fun  u H locs hw hP hD hS => ?_)
        obtain ⟨xg2_10, xf2_11⟩ := u
        have hP : va_P G.1 vwCl [(e0, .inr (5, [.ref e01, .int xl, .int xf2_11, .int xg2_10, .int xa2_3, .int xa2_3, .int xr, .int xn])), aB G e01 400 bt] H := hP
        have hD : va_D A [(e0, .inr (5, [.ref e01, .int xl, .int xf2_11, .int xg2_10, .int xa2_3, .int xa2_3, .int xr, .int xn])), aB G e01 400 bt] := hD
        have hv := hv xg2_10 xf2_11 hw
        exact x_vret (xa2_3, xa2_3, xg2_10, xf2_11) hQ hx hb hr hlocks hS dX5_readEnd_63 hv hP hD
      · have hv := hv.2 hc_8
        refine lv_aload_n hx hb dX5_readEnd_45 rfl (lv_at hl 0 rfl) ?_
        refine lv_dup hx hb dX5_readEnd_46 rfl ?_
        refine va_get (D := G.1) (ci := 5) (v := .int xa2_3) (C := RX5) (T := TX5) (N := 8) hx hb hts hinX5 hown hKK.1 hP 0 rfl rfl 4 (by decide) kl22 (fun _ h9 => h9) rfl dX5_readEnd_47 ?_
        refine lv_iconst (v := 1) hx hb dX5_readEnd_50 (by decide) ?_
        refine lv_iadd hx hb dX5_readEnd_51 ?_
        refine va_put (D := G.1) (ci := 5) (v := .int (xa2_3 + 1)) (ty := .int) (C := RX5) (T := TX5) (N := 8) hx hb hts hinX5 tyX5 tyX5_ok nmX5 hown hKK.1 hP hD hS 0 rfl rfl 4 (by decide) kl22 (fun _ h9 => h9) rfl (by decide +kernel) rfl rfl (Nat.le_of_ble_eq_true rfl) dX5_readEnd_52 (fun H locs hP hD hS => ?_)
        have hP : va_P G.1 vwCl [(e0, .inr (5, [.ref e01, .int xl, .int xf, .int xg, .int (xa2_3 + 1), .int xa2_3, .int xr, .int xn])), aB G e01 400 bt] H := hP
        have hD : va_D A [(e0, .inr (5, [.ref e01, .int xl, .int xf, .int xg, .int (xa2_3 + 1), .int xa2_3, .int xr, .int xn])), aB G e01 400 bt] := hD
        refine lv_goto (tgt := 63) hx hb dX5_readEnd_55 (by decide) ?_
        exact x_vret ((xa2_3 + 1), xa2_3, xg, xf) hQ hx hb hr hlocks hS dX5_readEnd_63 hv hP hD
  · have hv := hv.2 hc_1
    exact x_vret (xa, xt, xg, xf) hQ hx hb hr hlocks hS dX5_readEnd_7 hv hP hD
theorem k_X5_readEnd (l : Launch) (G : Gt) (e0 e01 : Nat) (sz : Nat) (bt : Nat → Int32) (xl : Int32) (xf : Int32) (xg : Int32) (xa : Int32) (xt : Int32) (xr : Int32) (xn : Int32) (hp : True) : MetV l yX5_readEnd wsX5_readEnd 1 21 G [.ref e0] [(e0, .inr (5, [.ref e01, .int xl, .int xf, .int xg, .int xa, .int xt, .int xr, .int xn])), aB G e01 400 bt] sz (fun (u : (Int32) × (Int32) × (Int32) × (Int32)) => True) (fun (u : (Int32) × (Int32) × (Int32) × (Int32)) => [(e0, .inr (5, [.ref e01, .int xl, .int u.2.2.2, .int u.2.2.1, .int u.1, .int u.2.1, .int xr, .int xn])), aB G e01 400 bt]) :=
  c_X5_readEnd l G e0 e01 sz bt xl xf xg xa xt xr xn (by
    sorry)

set_option maxHeartbeats 4000000 in
set_option maxRecDepth 100000 in
theorem c_X5_readKind (l : Launch) (G : Gt) (e0 e01 : Nat) (sz : Nat) (bt : Nat → Int32) (xl : Int32) (xf : Int32) (xg : Int32) (xa : Int32) (xt : Int32) (xr : Int32) (xn : Int32) (hv : (True) ∧ (∀ (xa2_2 : Int32) (xt2_3 : Int32), (True) → ((True) ∧ (∀ (r_4 : Int32), (True) → ((r_4 = 0 → (True) ∧ (∀ (r_6 : Int32), (True) → ((r_6 = 0 → (True) ∧ (∀ (r_8 : Int32), (True) → ((r_8 = 0 → (True) ∧ (∀ (r_10 : Int32), (True) → ((r_10 = 0 → (True) ∧ (∀ (r_12 : Int32), (True) → ((r_12 = 0 → (True) ∧ (∀ (xg2_15 : Int32) (xf2_16 : Int32), (True) → (True))) ∧ (¬ (r_12 = 0) → True)))) ∧ (¬ (r_10 = 0) → True)))) ∧ (¬ (r_8 = 0) → True)))) ∧ (¬ (r_6 = 0) → True)))) ∧ (¬ (r_4 = 0) → True)))))) : MetI l yX5_readKind wsX5_readKind 5 107 G [.ref e0] [(e0, .inr (5, [.ref e01, .int xl, .int xf, .int xg, .int xa, .int xt, .int xr, .int xn])), aB G e01 400 bt] sz (fun (r : Int32) (u : (Int32) × (Int32) × (Int32) × (Int32)) => True) (fun (u : (Int32) × (Int32) × (Int32) × (Int32)) => [(e0, .inr (5, [.ref e01, .int xl, .int u.2.2.2, .int u.2.2.1, .int u.1, .int u.2.1, .int xr, .int xn])), aB G e01 400 bt]) := by
  refine x_startI (cc := cX5_readKind) (maxL := 1) (ret := (some .int)) (by decide) rfl (Nat.le_of_ble_eq_true rfl) ?_
  intro p e s m args below meth c A R Q ls hRf hRl hQ C hP hD hS hA hSS hl
  obtain ⟨hx, hb, hr, hml, hown, hts, hlocks, hKK⟩ := C
  have hown : s.vm.findClass RX5 = some m.cls := hown
  have hl : lv_has ls 1 [(0, .ref e0)] := hl
  refine lv_aload_n hx hb dX5_readKind_0 rfl (lv_at hl 0 rfl) ?_
  obtain ⟨hp, hv⟩ := hv
  refine x_callv (wr := []) (w' := fun (u : (Int32) × (Int32)) => [(e0, .inr (5, [.ref e01, .int xl, .int xf, .int xg, .int u.1, .int u.2, .int xr, .int xn])), aB G e01 400 bt]) (x_runV (As := []) (rest := []) (n := 0) (C := RX5) (ci := 5) ⟨hx, hb, hml, hown, hts⟩ (k_X5_readWord l G e0 e01 _ bt xl xf xg xa xt xr xn hp) gX5_readKind_X5_readWord rfl (by decide +kernel) ⟨Nat.le_trans (Nat.le_of_ble_eq_true rfl) hRf, Nat.le_trans (Nat.le_of_ble_eq_true rfl) hRl⟩ hKK hSS hS hA hP hD [0, 1] (by decide) rfl rfl rfl 0 rfl rfl hl.1 rfl (Nat.le_of_ble_eq_true rfl) dX5_readKind_1) hP hD hS hA [0, 1] [] [0, 1] rfl rfl (by decide) (by decide) (by decide) (fun _ => rfl) (fun  u H locs hw hP hD hS => ?_)
  obtain ⟨xa2_2, xt2_3⟩ := u
  have hP : va_P G.1 vwCl [(e0, .inr (5, [.ref e01, .int xl, .int xf, .int xg, .int xa2_2, .int xt2_3, .int xr, .int xn])), aB G e01 400 bt] H := hP
  have hD : va_D A [(e0, .inr (5, [.ref e01, .int xl, .int xf, .int xg, .int xa2_2, .int xt2_3, .int xr, .int xn])), aB G e01 400 bt] := hD
  have hv := hv xa2_2 xt2_3 hw
  refine lv_aload_n hx hb dX5_readKind_4 rfl (lv_at hl 0 rfl) ?_
  refine va_ldcS hx hb hown (hSS.2.1 4 (by decide)) dX5_readKind_5 ?_
  obtain ⟨hp, hv⟩ := hv
  refine x_calliR (x_runV (As := [.ref (kS G 4)]) (rest := []) (n := 1) (C := RX5) (ci := 5) ⟨hx, hb, hml, hown, hts⟩ (k_X5_wordIs l G e0 e01 _ bt xl xf xg xa2_2 xt2_3 xr xn 4 (by decide) hp) gX5_readKind_X5_wordIs rfl (by decide +kernel) ⟨Nat.le_trans (Nat.le_of_ble_eq_true rfl) hRf, Nat.le_trans (Nat.le_of_ble_eq_true rfl) hRl⟩ hKK hSS hS hA hP hD [0, 1] (by decide) rfl rfl rfl 0 rfl rfl hl.1 rfl (Nat.le_of_ble_eq_true rfl) dX5_readKind_7) hP hD hS hA [0, 1] rfl (fun r_4 _ H locs hw hP hS => ?_)
  have hv := hv r_4 hw
  refine lv_if_eq (tgt := 15) hx hb dX5_readKind_10 (by decide) (fun hc_5 => ?_) (fun hc_5 => ?_)
  · have hv := hv.1 hc_5
    refine lv_aload_n hx hb dX5_readKind_15 rfl (lv_at hl 0 rfl) ?_
    refine va_ldcS hx hb hown (hSS.2.1 5 (by decide)) dX5_readKind_16 ?_
    obtain ⟨hp, hv⟩ := hv
    refine x_calliR (x_runV (As := [.ref (kS G 5)]) (rest := []) (n := 1) (C := RX5) (ci := 5) ⟨hx, hb, hml, hown, hts⟩ (k_X5_wordIs l G e0 e01 _ bt xl xf xg xa2_2 xt2_3 xr xn 5 (by decide) hp) gX5_readKind_X5_wordIs rfl (by decide +kernel) ⟨Nat.le_trans (Nat.le_of_ble_eq_true rfl) hRf, Nat.le_trans (Nat.le_of_ble_eq_true rfl) hRl⟩ hKK hSS hS hA hP hD [0, 1] (by decide) rfl rfl rfl 0 rfl rfl hl.1 rfl (Nat.le_of_ble_eq_true rfl) dX5_readKind_18) hP hD hS hA [0, 1] rfl (fun r_6 _ H locs hw hP hS => ?_)
    have hv := hv r_6 hw
    refine lv_if_eq (tgt := 26) hx hb dX5_readKind_21 (by decide) (fun hc_7 => ?_) (fun hc_7 => ?_)
    · have hv := hv.1 hc_7
      refine lv_aload_n hx hb dX5_readKind_26 rfl (lv_at hl 0 rfl) ?_
      refine va_ldcS hx hb hown (hSS.2.1 6 (by decide)) dX5_readKind_27 ?_
      obtain ⟨hp, hv⟩ := hv
      refine x_calliR (x_runV (As := [.ref (kS G 6)]) (rest := []) (n := 1) (C := RX5) (ci := 5) ⟨hx, hb, hml, hown, hts⟩ (k_X5_wordIs l G e0 e01 _ bt xl xf xg xa2_2 xt2_3 xr xn 6 (by decide) hp) gX5_readKind_X5_wordIs rfl (by decide +kernel) ⟨Nat.le_trans (Nat.le_of_ble_eq_true rfl) hRf, Nat.le_trans (Nat.le_of_ble_eq_true rfl) hRl⟩ hKK hSS hS hA hP hD [0, 1] (by decide) rfl rfl rfl 0 rfl rfl hl.1 rfl (Nat.le_of_ble_eq_true rfl) dX5_readKind_29) hP hD hS hA [0, 1] rfl (fun r_8 _ H locs hw hP hS => ?_)
      have hv := hv r_8 hw
      refine lv_if_eq (tgt := 37) hx hb dX5_readKind_32 (by decide) (fun hc_9 => ?_) (fun hc_9 => ?_)
      · have hv := hv.1 hc_9
        refine lv_aload_n hx hb dX5_readKind_37 rfl (lv_at hl 0 rfl) ?_
        refine va_ldcS hx hb hown (hSS.2.1 7 (by decide)) dX5_readKind_38 ?_
        obtain ⟨hp, hv⟩ := hv
        refine x_calliR (x_runV (As := [.ref (kS G 7)]) (rest := []) (n := 1) (C := RX5) (ci := 5) ⟨hx, hb, hml, hown, hts⟩ (k_X5_wordIs l G e0 e01 _ bt xl xf xg xa2_2 xt2_3 xr xn 7 (by decide) hp) gX5_readKind_X5_wordIs rfl (by decide +kernel) ⟨Nat.le_trans (Nat.le_of_ble_eq_true rfl) hRf, Nat.le_trans (Nat.le_of_ble_eq_true rfl) hRl⟩ hKK hSS hS hA hP hD [0, 1] (by decide) rfl rfl rfl 0 rfl rfl hl.1 rfl (Nat.le_of_ble_eq_true rfl) dX5_readKind_40) hP hD hS hA [0, 1] rfl (fun r_10 _ H locs hw hP hS => ?_)
        have hv := hv r_10 hw
        refine lv_if_eq (tgt := 48) hx hb dX5_readKind_43 (by decide) (fun hc_11 => ?_) (fun hc_11 => ?_)
        · have hv := hv.1 hc_11
          refine lv_aload_n hx hb dX5_readKind_48 rfl (lv_at hl 0 rfl) ?_
          refine va_ldcS hx hb hown (hSS.2.1 8 (by decide)) dX5_readKind_49 ?_
          obtain ⟨hp, hv⟩ := hv
          refine x_calliR (x_runV (As := [.ref (kS G 8)]) (rest := []) (n := 1) (C := RX5) (ci := 5) ⟨hx, hb, hml, hown, hts⟩ (k_X5_wordIs l G e0 e01 _ bt xl xf xg xa2_2 xt2_3 xr xn 8 (by decide) hp) gX5_readKind_X5_wordIs rfl (by decide +kernel) ⟨Nat.le_trans (Nat.le_of_ble_eq_true rfl) hRf, Nat.le_trans (Nat.le_of_ble_eq_true rfl) hRl⟩ hKK hSS hS hA hP hD [0, 1] (by decide) rfl rfl rfl 0 rfl rfl hl.1 rfl (Nat.le_of_ble_eq_true rfl) dX5_readKind_51) hP hD hS hA [0, 1] rfl (fun r_12 _ H locs hw hP hS => ?_)
          have hv := hv r_12 hw
          refine lv_if_eq (tgt := 59) hx hb dX5_readKind_54 (by decide) (fun hc_13 => ?_) (fun hc_13 => ?_)
          · have hv := hv.1 hc_13
            refine lv_aload_n hx hb dX5_readKind_59 rfl (lv_at hl 0 rfl) ?_
            refine lv_iconst (v := 1) hx hb dX5_readKind_60 (by decide) ?_
            obtain ⟨hp, hv⟩ := hv
            refine x_callv (wr := []) (w' := fun (u : (Int32) × (Int32)) => [(e0, .inr (5, [.ref e01, .int xl, .int u.2, .int u.1, .int xa2_2, .int xt2_3, .int xr, .int xn])), aB G e01 400 bt]) (x_runV (As := [.int 1]) (rest := []) (n := 1) (C := RX5) (ci := 5) ⟨hx, hb, hml, hown, hts⟩ (k_X5_fail l G e0 e01 _ bt xl xf xg xa2_2 xt2_3 xr xn 1 hp) gX5_readKind_X5_fail rfl (by decide +kernel) ⟨Nat.le_trans (Nat.le_of_ble_eq_true rfl) hRf, Nat.le_trans (Nat.le_of_ble_eq_true rfl) hRl⟩ hKK hSS hS hA hP hD [0, 1] (by decide) rfl rfl rfl 0 rfl rfl hl.1 rfl (Nat.le_of_ble_eq_true rfl) dX5_readKind_61) hP hD hS hA [0, 1] [] [0, 1] rfl rfl (by decide) (by decide) (by decide) (fun _ => rfl) (fun  u H locs hw hP hD hS => ?_)
            obtain ⟨xg2_15, xf2_16⟩ := u
            have hP : va_P G.1 vwCl [(e0, .inr (5, [.ref e01, .int xl, .int xf2_16, .int xg2_15, .int xa2_2, .int xt2_3, .int xr, .int xn])), aB G e01 400 bt] H := hP
            have hD : va_D A [(e0, .inr (5, [.ref e01, .int xl, .int xf2_16, .int xg2_15, .int xa2_2, .int xt2_3, .int xr, .int xn])), aB G e01 400 bt] := hD
            have hv := hv xg2_15 xf2_16 hw
            refine lv_iconst (v := 0) hx hb dX5_readKind_64 (by decide) ?_
            exact x_iret (v := 0) (xa2_2, xt2_3, xg2_15, xf2_16) hQ hx hb hr hlocks hS dX5_readKind_65 hv hP hD
          · have hv := hv.2 hc_13
            refine lv_iconst (v := 4) hx hb dX5_readKind_57 (by decide) ?_
            exact x_iret (v := 4) (xa2_2, xt2_3, xg, xf) hQ hx hb hr hlocks hS dX5_readKind_58 hv hP hD
        · have hv := hv.2 hc_11
          refine lv_iconst (v := 3) hx hb dX5_readKind_46 (by decide) ?_
          exact x_iret (v := 3) (xa2_2, xt2_3, xg, xf) hQ hx hb hr hlocks hS dX5_readKind_47 hv hP hD
      · have hv := hv.2 hc_9
        refine lv_iconst (v := 2) hx hb dX5_readKind_35 (by decide) ?_
        exact x_iret (v := 2) (xa2_2, xt2_3, xg, xf) hQ hx hb hr hlocks hS dX5_readKind_36 hv hP hD
    · have hv := hv.2 hc_7
      refine lv_iconst (v := 1) hx hb dX5_readKind_24 (by decide) ?_
      exact x_iret (v := 1) (xa2_2, xt2_3, xg, xf) hQ hx hb hr hlocks hS dX5_readKind_25 hv hP hD
  · have hv := hv.2 hc_5
    refine lv_iconst (v := 0) hx hb dX5_readKind_13 (by decide) ?_
    exact x_iret (v := 0) (xa2_2, xt2_3, xg, xf) hQ hx hb hr hlocks hS dX5_readKind_14 hv hP hD
theorem k_X5_readKind (l : Launch) (G : Gt) (e0 e01 : Nat) (sz : Nat) (bt : Nat → Int32) (xl : Int32) (xf : Int32) (xg : Int32) (xa : Int32) (xt : Int32) (xr : Int32) (xn : Int32) (hp : True) : MetI l yX5_readKind wsX5_readKind 5 107 G [.ref e0] [(e0, .inr (5, [.ref e01, .int xl, .int xf, .int xg, .int xa, .int xt, .int xr, .int xn])), aB G e01 400 bt] sz (fun (r : Int32) (u : (Int32) × (Int32) × (Int32) × (Int32)) => True) (fun (u : (Int32) × (Int32) × (Int32) × (Int32)) => [(e0, .inr (5, [.ref e01, .int xl, .int u.2.2.2, .int u.2.2.1, .int u.1, .int u.2.1, .int xr, .int xn])), aB G e01 400 bt]) :=
  c_X5_readKind l G e0 e01 sz bt xl xf xg xa xt xr xn (by
    sorry)

set_option maxHeartbeats 4000000 in
set_option maxRecDepth 100000 in
theorem c_X5_readStone (l : Launch) (G : Gt) (e0 e01 t t1 t2 t3 t4 t5 t6 : Nat) (sz : Nat) (bt : Nat → Int32) (xl : Int32) (xf : Int32) (xg : Int32) (xa : Int32) (xt : Int32) (xr : Int32) (xn : Int32) (ns : Int32) (np : Int32) (fu : Int32) (fd : Int32) (fi : Int32) (sz_ : Nat → Int32) (pt : Nat → Int32) (fh : Nat → Int32) (kd : Nat → Int32) (nd : Nat → Int32) (fw : Nat → Int32) (hv : (ns < 9 → (True) ∧ (∀ (r_2 : Int32) (xa2_3 : Int32) (xt2_4 : Int32) (xg2_5 : Int32) (xf2_6 : Int32), (True) → ((True) ∧ (∀ (r_7 : Int32) (xa2_8 : Int32) (xt2_9 : Int32) (xg2_10 : Int32) (xf2_11 : Int32), (True) → ((True) ∧ (∀ (r_12 : Int32) (xa2_13 : Int32) (xt2_14 : Int32) (xg2_15 : Int32) (xf2_16 : Int32), (True) → ((r_12 ≤ r_2 → (True) ∧ (∀ (xa2_19 : Int32) (xt2_20 : Int32) (xg2_21 : Int32) (xf2_22 : Int32), (True) → ((¬ xg2_21 = 0 → True) ∧ (xg2_21 = 0 → (vp_in ns 9 ∧ ns < 9) ∧ (True))))) ∧ (¬ (r_12 ≤ r_2) → (True) ∧ (∀ (xg2_30 : Int32) (xf2_31 : Int32), (True) → ((True) ∧ (∀ (xa2_33 : Int32) (xt2_34 : Int32) (xg2_35 : Int32) (xf2_36 : Int32), (True) → ((¬ xg2_35 = 0 → True) ∧ (xg2_35 = 0 → (vp_in ns 9 ∧ ns < 9) ∧ (True)))))))))))))) ∧ (¬ (ns < 9) → (True) ∧ (∀ (xg2_44 : Int32) (xf2_45 : Int32), (True) → (True)))) : MetV l yX5_readStone wsX5_readStone 2 45 G [.ref e0, .ref t] [(e0, .inr (5, [.ref e01, .int xl, .int xf, .int xg, .int xa, .int xt, .int xr, .int xn])), aB G e01 400 bt, (t, .inr (6, [.int ns, .int np, .int fu, .int fd, .int fi, .ref t1, .ref t2, .ref t3, .ref t4, .ref t5, .ref t6])), aI G t1 9 sz_, aI G t2 9 pt, aI G t3 9 fh, aI G t4 8 kd, aI G t5 8 nd, aI G t6 8 fw] sz (fun (u : (Int32) × (Int32) × (Int32) × (Int32) × (Int32) × (Nat → Int32) × (Nat → Int32) × (Nat → Int32)) => True) (fun (u : (Int32) × (Int32) × (Int32) × (Int32) × (Int32) × (Nat → Int32) × (Nat → Int32) × (Nat → Int32)) => [(e0, .inr (5, [.ref e01, .int xl, .int u.2.2.2.1, .int u.2.2.1, .int u.1, .int u.2.1, .int xr, .int xn])), aB G e01 400 bt, (t, .inr (6, [.int u.2.2.2.2.1, .int np, .int fu, .int fd, .int fi, .ref t1, .ref t2, .ref t3, .ref t4, .ref t5, .ref t6])), aI G t1 9 u.2.2.2.2.2.1, aI G t2 9 u.2.2.2.2.2.2.1, aI G t3 9 u.2.2.2.2.2.2.2, aI G t4 8 kd, aI G t5 8 nd, aI G t6 8 fw]) := by
  refine x_startV (cc := cX5_readStone) (maxL := 5) (ret := none) (by decide) rfl (Nat.le_of_ble_eq_true rfl) ?_
  intro p e s m args below meth c A R Q ls hRf hRl hQ C hP hD hS hA hSS hl
  obtain ⟨hx, hb, hr, hml, hown, hts, hlocks, hKK⟩ := C
  have hown : s.vm.findClass RX5 = some m.cls := hown
  have hl : lv_has ls 5 [(0, .ref e0), (1, .ref t)] := hl
  have hinX5 : ∀ w ∈ u_ws RX5 TX5 8, w ∈ wsX5_readStone := by decide +kernel
  have hinX6 : ∀ w ∈ u_ws RX6 TX6 11, w ∈ wsX5_readStone := by decide +kernel
  have kl25 := hts (.fieldLink RX5 25 "WarmStones$Text" "fault" "I") (by decide +kernel)
  have kl82 := hts (.fieldLink RX5 82 "WarmStones$Town" "stones" "I") (by decide +kernel)
  refine lv_aload_n hx hb dX5_readStone_0 rfl (lv_at hl 1 rfl) ?_
  refine va_get (D := G.1) (ci := 6) (v := .int ns) (C := RX6) (T := TX6) (N := 11) hx hb hts hinX6 hown hKK.1 hP 2 rfl rfl 0 (by decide) kl82 (fun _ h9 => h9) rfl dX5_readStone_1 ?_
  refine lv_bipush (v := 9) hx hb dX5_readStone_4 (by decide) ?_
  refine lv_icmp_lt (tgt := 15) hx hb dX5_readStone_6 (by decide) (fun hc_1 => ?_) (fun hc_1 => ?_)
  · have hv := hv.1 hc_1
    refine lv_aload_n hx hb dX5_readStone_15 rfl (lv_at hl 0 rfl) ?_
    refine lv_iconst (v := 1) hx hb dX5_readStone_16 (by decide) ?_
    refine lv_sipush (v := 9999) hx hb dX5_readStone_17 (by decide) ?_
    obtain ⟨hp, hv⟩ := hv
    refine x_calli (wr := [(t, .inr (6, [.int ns, .int np, .int fu, .int fd, .int fi, .ref t1, .ref t2, .ref t3, .ref t4, .ref t5, .ref t6])), aI G t1 9 sz_, aI G t2 9 pt, aI G t3 9 fh, aI G t4 8 kd, aI G t5 8 nd, aI G t6 8 fw]) (w' := fun (u : (Int32) × (Int32) × (Int32) × (Int32)) => [(e0, .inr (5, [.ref e01, .int xl, .int u.2.2.2, .int u.2.2.1, .int u.1, .int u.2.1, .int xr, .int xn])), aB G e01 400 bt, (t, .inr (6, [.int ns, .int np, .int fu, .int fd, .int fi, .ref t1, .ref t2, .ref t3, .ref t4, .ref t5, .ref t6])), aI G t1 9 sz_, aI G t2 9 pt, aI G t3 9 fh, aI G t4 8 kd, aI G t5 8 nd, aI G t6 8 fw]) (x_runV (As := [.int 1, .int 9999]) (rest := []) (n := 2) (C := RX5) (ci := 5) ⟨hx, hb, hml, hown, hts⟩ (k_X5_readNumber l G e0 e01 _ bt xl xf xg xa xt xr xn 1 9999 hp) gX5_readStone_X5_readNumber rfl (by decide +kernel) ⟨Nat.le_trans (Nat.le_of_ble_eq_true rfl) hRf, Nat.le_trans (Nat.le_of_ble_eq_true rfl) hRl⟩ hKK hSS hS hA hP hD [0, 1] (by decide) rfl rfl rfl 0 rfl rfl hl.1 rfl (Nat.le_of_ble_eq_true rfl) dX5_readStone_20) hP hD hS hA [0, 1] [2, 3, 4, 5, 6, 7, 8] [7, 8, 0, 1, 2, 3, 4, 5, 6] rfl rfl (by decide) (by decide) (by decide) (fun _ => rfl) (fun r_2 u H locs hw hP hD hS => ?_)
    obtain ⟨xa2_3, xt2_4, xg2_5, xf2_6⟩ := u
    have hP : va_P G.1 vwCl [(e0, .inr (5, [.ref e01, .int xl, .int xf2_6, .int xg2_5, .int xa2_3, .int xt2_4, .int xr, .int xn])), aB G e01 400 bt, (t, .inr (6, [.int ns, .int np, .int fu, .int fd, .int fi, .ref t1, .ref t2, .ref t3, .ref t4, .ref t5, .ref t6])), aI G t1 9 sz_, aI G t2 9 pt, aI G t3 9 fh, aI G t4 8 kd, aI G t5 8 nd, aI G t6 8 fw] H := hP
    have hD : va_D A [(e0, .inr (5, [.ref e01, .int xl, .int xf2_6, .int xg2_5, .int xa2_3, .int xt2_4, .int xr, .int xn])), aB G e01 400 bt, (t, .inr (6, [.int ns, .int np, .int fu, .int fd, .int fi, .ref t1, .ref t2, .ref t3, .ref t4, .ref t5, .ref t6])), aI G t1 9 sz_, aI G t2 9 pt, aI G t3 9 fh, aI G t4 8 kd, aI G t5 8 nd, aI G t6 8 fw] := hD
    have hv := hv r_2 xa2_3 xt2_4 xg2_5 xf2_6 hw
    refine lv_istore_n (lv' := [(2, .int r_2), (0, .ref e0), (1, .ref t)]) hx hb dX5_readStone_23 rfl hl (by decide) rfl (fun ls hl => ?_)
    refine lv_aload_n hx hb dX5_readStone_24 rfl (lv_at hl 1 rfl) ?_
    refine lv_iconst (v := 2) hx hb dX5_readStone_25 (by decide) ?_
    refine lv_sipush (v := 999) hx hb dX5_readStone_26 (by decide) ?_
    obtain ⟨hp, hv⟩ := hv
    refine x_calli (wr := [(t, .inr (6, [.int ns, .int np, .int fu, .int fd, .int fi, .ref t1, .ref t2, .ref t3, .ref t4, .ref t5, .ref t6])), aI G t1 9 sz_, aI G t2 9 pt, aI G t3 9 fh, aI G t4 8 kd, aI G t5 8 nd, aI G t6 8 fw]) (w' := fun (u : (Int32) × (Int32) × (Int32) × (Int32)) => [(e0, .inr (5, [.ref e01, .int xl, .int u.2.2.2, .int u.2.2.1, .int u.1, .int u.2.1, .int xr, .int xn])), aB G e01 400 bt, (t, .inr (6, [.int ns, .int np, .int fu, .int fd, .int fi, .ref t1, .ref t2, .ref t3, .ref t4, .ref t5, .ref t6])), aI G t1 9 sz_, aI G t2 9 pt, aI G t3 9 fh, aI G t4 8 kd, aI G t5 8 nd, aI G t6 8 fw]) (x_runV (As := [.int 2, .int 999]) (rest := []) (n := 2) (C := RX5) (ci := 5) ⟨hx, hb, hml, hown, hts⟩ (k_X5_readNumber l G e0 e01 _ bt xl xf2_6 xg2_5 xa2_3 xt2_4 xr xn 2 999 hp) gX5_readStone_X5_readNumber rfl (by decide +kernel) ⟨Nat.le_trans (Nat.le_of_ble_eq_true rfl) hRf, Nat.le_trans (Nat.le_of_ble_eq_true rfl) hRl⟩ hKK hSS hS hA hP hD [0, 1] (by decide) rfl rfl rfl 0 rfl rfl hl.1 rfl (Nat.le_of_ble_eq_true rfl) dX5_readStone_29) hP hD hS hA [0, 1] [2, 3, 4, 5, 6, 7, 8] [7, 8, 0, 1, 2, 3, 4, 5, 6] rfl rfl (by decide) (by decide) (by decide) (fun _ => rfl) (fun r_7 u H locs hw hP hD hS => ?_)
    obtain ⟨xa2_8, xt2_9, xg2_10, xf2_11⟩ := u
    have hP : va_P G.1 vwCl [(e0, .inr (5, [.ref e01, .int xl, .int xf2_11, .int xg2_10, .int xa2_8, .int xt2_9, .int xr, .int xn])), aB G e01 400 bt, (t, .inr (6, [.int ns, .int np, .int fu, .int fd, .int fi, .ref t1, .ref t2, .ref t3, .ref t4, .ref t5, .ref t6])), aI G t1 9 sz_, aI G t2 9 pt, aI G t3 9 fh, aI G t4 8 kd, aI G t5 8 nd, aI G t6 8 fw] H := hP
    have hD : va_D A [(e0, .inr (5, [.ref e01, .int xl, .int xf2_11, .int xg2_10, .int xa2_8, .int xt2_9, .int xr, .int xn])), aB G e01 400 bt, (t, .inr (6, [.int ns, .int np, .int fu, .int fd, .int fi, .ref t1, .ref t2, .ref t3, .ref t4, .ref t5, .ref t6])), aI G t1 9 sz_, aI G t2 9 pt, aI G t3 9 fh, aI G t4 8 kd, aI G t5 8 nd, aI G t6 8 fw] := hD
    have hv := hv r_7 xa2_8 xt2_9 xg2_10 xf2_11 hw
    refine lv_istore_n (lv' := [(3, .int r_7), (2, .int r_2), (0, .ref e0), (1, .ref t)]) hx hb dX5_readStone_32 rfl hl (by decide) rfl (fun ls hl => ?_)
    refine lv_aload_n hx hb dX5_readStone_33 rfl (lv_at hl 2 rfl) ?_
    refine lv_iconst (v := 0) hx hb dX5_readStone_34 (by decide) ?_
    refine lv_sipush (v := 9999) hx hb dX5_readStone_35 (by decide) ?_
    obtain ⟨hp, hv⟩ := hv
    refine x_calli (wr := [(t, .inr (6, [.int ns, .int np, .int fu, .int fd, .int fi, .ref t1, .ref t2, .ref t3, .ref t4, .ref t5, .ref t6])), aI G t1 9 sz_, aI G t2 9 pt, aI G t3 9 fh, aI G t4 8 kd, aI G t5 8 nd, aI G t6 8 fw]) (w' := fun (u : (Int32) × (Int32) × (Int32) × (Int32)) => [(e0, .inr (5, [.ref e01, .int xl, .int u.2.2.2, .int u.2.2.1, .int u.1, .int u.2.1, .int xr, .int xn])), aB G e01 400 bt, (t, .inr (6, [.int ns, .int np, .int fu, .int fd, .int fi, .ref t1, .ref t2, .ref t3, .ref t4, .ref t5, .ref t6])), aI G t1 9 sz_, aI G t2 9 pt, aI G t3 9 fh, aI G t4 8 kd, aI G t5 8 nd, aI G t6 8 fw]) (x_runV (As := [.int 0, .int 9999]) (rest := []) (n := 2) (C := RX5) (ci := 5) ⟨hx, hb, hml, hown, hts⟩ (k_X5_readNumber l G e0 e01 _ bt xl xf2_11 xg2_10 xa2_8 xt2_9 xr xn 0 9999 hp) gX5_readStone_X5_readNumber rfl (by decide +kernel) ⟨Nat.le_trans (Nat.le_of_ble_eq_true rfl) hRf, Nat.le_trans (Nat.le_of_ble_eq_true rfl) hRl⟩ hKK hSS hS hA hP hD [0, 1] (by decide) rfl rfl rfl 0 rfl rfl hl.1 rfl (Nat.le_of_ble_eq_true rfl) dX5_readStone_38) hP hD hS hA [0, 1] [2, 3, 4, 5, 6, 7, 8] [7, 8, 0, 1, 2, 3, 4, 5, 6] rfl rfl (by decide) (by decide) (by decide) (fun _ => rfl) (fun r_12 u H locs hw hP hD hS => ?_)
    obtain ⟨xa2_13, xt2_14, xg2_15, xf2_16⟩ := u
    have hP : va_P G.1 vwCl [(e0, .inr (5, [.ref e01, .int xl, .int xf2_16, .int xg2_15, .int xa2_13, .int xt2_14, .int xr, .int xn])), aB G e01 400 bt, (t, .inr (6, [.int ns, .int np, .int fu, .int fd, .int fi, .ref t1, .ref t2, .ref t3, .ref t4, .ref t5, .ref t6])), aI G t1 9 sz_, aI G t2 9 pt, aI G t3 9 fh, aI G t4 8 kd, aI G t5 8 nd, aI G t6 8 fw] H := hP
    have hD : va_D A [(e0, .inr (5, [.ref e01, .int xl, .int xf2_16, .int xg2_15, .int xa2_13, .int xt2_14, .int xr, .int xn])), aB G e01 400 bt, (t, .inr (6, [.int ns, .int np, .int fu, .int fd, .int fi, .ref t1, .ref t2, .ref t3, .ref t4, .ref t5, .ref t6])), aI G t1 9 sz_, aI G t2 9 pt, aI G t3 9 fh, aI G t4 8 kd, aI G t5 8 nd, aI G t6 8 fw] := hD
    have hv := hv r_12 xa2_13 xt2_14 xg2_15 xf2_16 hw
    refine lv_istore (lv' := [(4, .int r_12), (3, .int r_7), (2, .int r_2), (0, .ref e0), (1, .ref t)]) hx hb dX5_readStone_41 hl (by decide) rfl (fun ls hl => ?_)
    refine lv_iload hx hb dX5_readStone_43 (lv_at hl 0 rfl) ?_
    refine lv_iload_n hx hb dX5_readStone_45 rfl (lv_at hl 2 rfl) ?_
    refine lv_icmp_le (tgt := 54) hx hb dX5_readStone_46 (by decide) (fun hc_17 => ?_) (fun hc_17 => ?_)
    · have hv := hv.1 hc_17
      refine lv_aload_n hx hb dX5_readStone_54 rfl (lv_at hl 3 rfl) ?_
      obtain ⟨hp, hv⟩ := hv
      refine x_callv (wr := [(t, .inr (6, [.int ns, .int np, .int fu, .int fd, .int fi, .ref t1, .ref t2, .ref t3, .ref t4, .ref t5, .ref t6])), aI G t1 9 sz_, aI G t2 9 pt, aI G t3 9 fh, aI G t4 8 kd, aI G t5 8 nd, aI G t6 8 fw]) (w' := fun (u : (Int32) × (Int32) × (Int32) × (Int32)) => [(e0, .inr (5, [.ref e01, .int xl, .int u.2.2.2, .int u.2.2.1, .int u.1, .int u.2.1, .int xr, .int xn])), aB G e01 400 bt, (t, .inr (6, [.int ns, .int np, .int fu, .int fd, .int fi, .ref t1, .ref t2, .ref t3, .ref t4, .ref t5, .ref t6])), aI G t1 9 sz_, aI G t2 9 pt, aI G t3 9 fh, aI G t4 8 kd, aI G t5 8 nd, aI G t6 8 fw]) (x_runV (As := []) (rest := []) (n := 0) (C := RX5) (ci := 5) ⟨hx, hb, hml, hown, hts⟩ (k_X5_readEnd l G e0 e01 _ bt xl xf2_16 xg2_15 xa2_13 xt2_14 xr xn hp) gX5_readStone_X5_readEnd rfl (by decide +kernel) ⟨Nat.le_trans (Nat.le_of_ble_eq_true rfl) hRf, Nat.le_trans (Nat.le_of_ble_eq_true rfl) hRl⟩ hKK hSS hS hA hP hD [0, 1] (by decide) rfl rfl rfl 0 rfl rfl hl.1 rfl (Nat.le_of_ble_eq_true rfl) dX5_readStone_55) hP hD hS hA [0, 1] [2, 3, 4, 5, 6, 7, 8] [7, 8, 0, 1, 2, 3, 4, 5, 6] rfl rfl (by decide) (by decide) (by decide) (fun _ => rfl) (fun  u H locs hw hP hD hS => ?_)
      obtain ⟨xa2_19, xt2_20, xg2_21, xf2_22⟩ := u
      have hP : va_P G.1 vwCl [(e0, .inr (5, [.ref e01, .int xl, .int xf2_22, .int xg2_21, .int xa2_19, .int xt2_20, .int xr, .int xn])), aB G e01 400 bt, (t, .inr (6, [.int ns, .int np, .int fu, .int fd, .int fi, .ref t1, .ref t2, .ref t3, .ref t4, .ref t5, .ref t6])), aI G t1 9 sz_, aI G t2 9 pt, aI G t3 9 fh, aI G t4 8 kd, aI G t5 8 nd, aI G t6 8 fw] H := hP
      have hD : va_D A [(e0, .inr (5, [.ref e01, .int xl, .int xf2_22, .int xg2_21, .int xa2_19, .int xt2_20, .int xr, .int xn])), aB G e01 400 bt, (t, .inr (6, [.int ns, .int np, .int fu, .int fd, .int fi, .ref t1, .ref t2, .ref t3, .ref t4, .ref t5, .ref t6])), aI G t1 9 sz_, aI G t2 9 pt, aI G t3 9 fh, aI G t4 8 kd, aI G t5 8 nd, aI G t6 8 fw] := hD
      have hv := hv xa2_19 xt2_20 xg2_21 xf2_22 hw
      refine lv_aload_n hx hb dX5_readStone_58 rfl (lv_at hl 3 rfl) ?_
      refine va_get (D := G.1) (ci := 5) (v := .int xg2_21) (C := RX5) (T := TX5) (N := 8) hx hb hts hinX5 hown hKK.1 hP 0 rfl rfl 3 (by decide) kl25 (fun _ h9 => h9) rfl dX5_readStone_59 ?_
      refine lv_if_ne (tgt := 73) hx hb dX5_readStone_62 (by decide) (fun hc_23 => ?_) (fun hc_23 => ?_)
      · have hv := hv.1 hc_23
        exact x_vret (xa2_19, xt2_20, xg2_21, xf2_22, ns, sz_, pt, fh) hQ hx hb hr hlocks hS dX5_readStone_73 hv hP hD
      · have hv := hv.2 hc_23
        refine lv_aload_n hx hb dX5_readStone_65 rfl (lv_at hl 4 rfl) ?_
        refine lv_iload_n hx hb dX5_readStone_66 rfl (lv_at hl 2 rfl) ?_
        refine lv_iload_n hx hb dX5_readStone_67 rfl (lv_at hl 1 rfl) ?_
        refine lv_iload hx hb dX5_readStone_68 (lv_at hl 0 rfl) ?_
        obtain ⟨hp, hv⟩ := hv
        refine x_callv (wr := [(e0, .inr (5, [.ref e01, .int xl, .int xf2_22, .int xg2_21, .int xa2_19, .int xt2_20, .int xr, .int xn])), aB G e01 400 bt]) (w' := fun (u : (Int32) × (Nat → Int32) × (Nat → Int32) × (Nat → Int32)) => [(e0, .inr (5, [.ref e01, .int xl, .int xf2_22, .int xg2_21, .int xa2_19, .int xt2_20, .int xr, .int xn])), aB G e01 400 bt, (t, .inr (6, [.int u.1, .int np, .int fu, .int fd, .int fi, .ref t1, .ref t2, .ref t3, .ref t4, .ref t5, .ref t6])), aI G t1 9 u.2.1, aI G t2 9 u.2.2.1, aI G t3 9 u.2.2.2, aI G t4 8 kd, aI G t5 8 nd, aI G t6 8 fw]) (x_runV (As := [.int r_2, .int r_7, .int r_12]) (rest := []) (n := 3) (C := RX6) (ci := 6) ⟨hx, hb, hml, hown, hts⟩ (k_X6_addStone l G t t1 t2 t3 t4 t5 t6 _ ns np fu fd fi sz_ pt fh kd nd fw r_2 r_7 r_12 hp) gX5_readStone_X6_addStone rfl (by decide +kernel) ⟨Nat.le_trans (Nat.le_of_ble_eq_true rfl) hRf, Nat.le_trans (Nat.le_of_ble_eq_true rfl) hRl⟩ hKK hSS hS hA hP hD [2, 3, 4, 5, 6, 7, 8] (by decide) rfl rfl rfl 2 rfl rfl hl.1 rfl (Nat.le_of_ble_eq_true rfl) dX5_readStone_70) hP hD hS hA [2, 3, 4, 5, 6, 7, 8] [0, 1] [0, 1, 2, 3, 4, 5, 6, 7, 8] rfl rfl (by decide) (by decide) (by decide) (fun _ => rfl) (fun  u H locs hw hP hD hS => ?_)
        obtain ⟨ns2_25, sz2_26, pt2_27, fh2_28⟩ := u
        obtain ⟨hw0, hw1, hw2, hw3⟩ := hw
        replace hw0 := hw0.symm; subst hw0
        replace hw1 := hw1.symm; subst hw1
        replace hw2 := hw2.symm; subst hw2
        replace hw3 := hw3.symm; subst hw3
        have hP : va_P G.1 vwCl [(e0, .inr (5, [.ref e01, .int xl, .int xf2_22, .int xg2_21, .int xa2_19, .int xt2_20, .int xr, .int xn])), aB G e01 400 bt, (t, .inr (6, [.int (ns + 1), .int np, .int fu, .int fd, .int fi, .ref t1, .ref t2, .ref t3, .ref t4, .ref t5, .ref t6])), aI G t1 9 (upd sz_ ns.toNatClampNeg r_2), aI G t2 9 (upd pt ns.toNatClampNeg r_7), aI G t3 9 (upd fh ns.toNatClampNeg r_12), aI G t4 8 kd, aI G t5 8 nd, aI G t6 8 fw] H := hP
        have hD : va_D A [(e0, .inr (5, [.ref e01, .int xl, .int xf2_22, .int xg2_21, .int xa2_19, .int xt2_20, .int xr, .int xn])), aB G e01 400 bt, (t, .inr (6, [.int (ns + 1), .int np, .int fu, .int fd, .int fi, .ref t1, .ref t2, .ref t3, .ref t4, .ref t5, .ref t6])), aI G t1 9 (upd sz_ ns.toNatClampNeg r_2), aI G t2 9 (upd pt ns.toNatClampNeg r_7), aI G t3 9 (upd fh ns.toNatClampNeg r_12), aI G t4 8 kd, aI G t5 8 nd, aI G t6 8 fw] := hD
        exact x_vret (xa2_19, xt2_20, xg2_21, xf2_22, (ns + 1), (upd sz_ ns.toNatClampNeg r_2), (upd pt ns.toNatClampNeg r_7), (upd fh ns.toNatClampNeg r_12)) hQ hx hb hr hlocks hS dX5_readStone_73 hv hP hD
    · have hv := hv.2 hc_17
      refine lv_aload_n hx hb dX5_readStone_49 rfl (lv_at hl 3 rfl) ?_
      refine lv_iconst (v := 4) hx hb dX5_readStone_50 (by decide) ?_
      obtain ⟨hp, hv⟩ := hv
      refine x_callv (wr := [(t, .inr (6, [.int ns, .int np, .int fu, .int fd, .int fi, .ref t1, .ref t2, .ref t3, .ref t4, .ref t5, .ref t6])), aI G t1 9 sz_, aI G t2 9 pt, aI G t3 9 fh, aI G t4 8 kd, aI G t5 8 nd, aI G t6 8 fw]) (w' := fun (u : (Int32) × (Int32)) => [(e0, .inr (5, [.ref e01, .int xl, .int u.2, .int u.1, .int xa2_13, .int xt2_14, .int xr, .int xn])), aB G e01 400 bt, (t, .inr (6, [.int ns, .int np, .int fu, .int fd, .int fi, .ref t1, .ref t2, .ref t3, .ref t4, .ref t5, .ref t6])), aI G t1 9 sz_, aI G t2 9 pt, aI G t3 9 fh, aI G t4 8 kd, aI G t5 8 nd, aI G t6 8 fw]) (x_runV (As := [.int 4]) (rest := []) (n := 1) (C := RX5) (ci := 5) ⟨hx, hb, hml, hown, hts⟩ (k_X5_fail l G e0 e01 _ bt xl xf2_16 xg2_15 xa2_13 xt2_14 xr xn 4 hp) gX5_readStone_X5_fail rfl (by decide +kernel) ⟨Nat.le_trans (Nat.le_of_ble_eq_true rfl) hRf, Nat.le_trans (Nat.le_of_ble_eq_true rfl) hRl⟩ hKK hSS hS hA hP hD [0, 1] (by decide) rfl rfl rfl 0 rfl rfl hl.1 rfl (Nat.le_of_ble_eq_true rfl) dX5_readStone_51) hP hD hS hA [0, 1] [2, 3, 4, 5, 6, 7, 8] [7, 8, 0, 1, 2, 3, 4, 5, 6] rfl rfl (by decide) (by decide) (by decide) (fun _ => rfl) (fun  u H locs hw hP hD hS => ?_)
      obtain ⟨xg2_30, xf2_31⟩ := u
      have hP : va_P G.1 vwCl [(e0, .inr (5, [.ref e01, .int xl, .int xf2_31, .int xg2_30, .int xa2_13, .int xt2_14, .int xr, .int xn])), aB G e01 400 bt, (t, .inr (6, [.int ns, .int np, .int fu, .int fd, .int fi, .ref t1, .ref t2, .ref t3, .ref t4, .ref t5, .ref t6])), aI G t1 9 sz_, aI G t2 9 pt, aI G t3 9 fh, aI G t4 8 kd, aI G t5 8 nd, aI G t6 8 fw] H := hP
      have hD : va_D A [(e0, .inr (5, [.ref e01, .int xl, .int xf2_31, .int xg2_30, .int xa2_13, .int xt2_14, .int xr, .int xn])), aB G e01 400 bt, (t, .inr (6, [.int ns, .int np, .int fu, .int fd, .int fi, .ref t1, .ref t2, .ref t3, .ref t4, .ref t5, .ref t6])), aI G t1 9 sz_, aI G t2 9 pt, aI G t3 9 fh, aI G t4 8 kd, aI G t5 8 nd, aI G t6 8 fw] := hD
      have hv := hv xg2_30 xf2_31 hw
      refine lv_aload_n hx hb dX5_readStone_54 rfl (lv_at hl 3 rfl) ?_
      obtain ⟨hp, hv⟩ := hv
      refine x_callv (wr := [(t, .inr (6, [.int ns, .int np, .int fu, .int fd, .int fi, .ref t1, .ref t2, .ref t3, .ref t4, .ref t5, .ref t6])), aI G t1 9 sz_, aI G t2 9 pt, aI G t3 9 fh, aI G t4 8 kd, aI G t5 8 nd, aI G t6 8 fw]) (w' := fun (u : (Int32) × (Int32) × (Int32) × (Int32)) => [(e0, .inr (5, [.ref e01, .int xl, .int u.2.2.2, .int u.2.2.1, .int u.1, .int u.2.1, .int xr, .int xn])), aB G e01 400 bt, (t, .inr (6, [.int ns, .int np, .int fu, .int fd, .int fi, .ref t1, .ref t2, .ref t3, .ref t4, .ref t5, .ref t6])), aI G t1 9 sz_, aI G t2 9 pt, aI G t3 9 fh, aI G t4 8 kd, aI G t5 8 nd, aI G t6 8 fw]) (x_runV (As := []) (rest := []) (n := 0) (C := RX5) (ci := 5) ⟨hx, hb, hml, hown, hts⟩ (k_X5_readEnd l G e0 e01 _ bt xl xf2_31 xg2_30 xa2_13 xt2_14 xr xn hp) gX5_readStone_X5_readEnd rfl (by decide +kernel) ⟨Nat.le_trans (Nat.le_of_ble_eq_true rfl) hRf, Nat.le_trans (Nat.le_of_ble_eq_true rfl) hRl⟩ hKK hSS hS hA hP hD [0, 1] (by decide) rfl rfl rfl 0 rfl rfl hl.1 rfl (Nat.le_of_ble_eq_true rfl) dX5_readStone_55) hP hD hS hA [0, 1] [2, 3, 4, 5, 6, 7, 8] [7, 8, 0, 1, 2, 3, 4, 5, 6] rfl rfl (by decide) (by decide) (by decide) (fun _ => rfl) (fun  u H locs hw hP hD hS => ?_)
      obtain ⟨xa2_33, xt2_34, xg2_35, xf2_36⟩ := u
      have hP : va_P G.1 vwCl [(e0, .inr (5, [.ref e01, .int xl, .int xf2_36, .int xg2_35, .int xa2_33, .int xt2_34, .int xr, .int xn])), aB G e01 400 bt, (t, .inr (6, [.int ns, .int np, .int fu, .int fd, .int fi, .ref t1, .ref t2, .ref t3, .ref t4, .ref t5, .ref t6])), aI G t1 9 sz_, aI G t2 9 pt, aI G t3 9 fh, aI G t4 8 kd, aI G t5 8 nd, aI G t6 8 fw] H := hP
      have hD : va_D A [(e0, .inr (5, [.ref e01, .int xl, .int xf2_36, .int xg2_35, .int xa2_33, .int xt2_34, .int xr, .int xn])), aB G e01 400 bt, (t, .inr (6, [.int ns, .int np, .int fu, .int fd, .int fi, .ref t1, .ref t2, .ref t3, .ref t4, .ref t5, .ref t6])), aI G t1 9 sz_, aI G t2 9 pt, aI G t3 9 fh, aI G t4 8 kd, aI G t5 8 nd, aI G t6 8 fw] := hD
      have hv := hv xa2_33 xt2_34 xg2_35 xf2_36 hw
      refine lv_aload_n hx hb dX5_readStone_58 rfl (lv_at hl 3 rfl) ?_
      refine va_get (D := G.1) (ci := 5) (v := .int xg2_35) (C := RX5) (T := TX5) (N := 8) hx hb hts hinX5 hown hKK.1 hP 0 rfl rfl 3 (by decide) kl25 (fun _ h9 => h9) rfl dX5_readStone_59 ?_
      refine lv_if_ne (tgt := 73) hx hb dX5_readStone_62 (by decide) (fun hc_37 => ?_) (fun hc_37 => ?_)
      · have hv := hv.1 hc_37
        exact x_vret (xa2_33, xt2_34, xg2_35, xf2_36, ns, sz_, pt, fh) hQ hx hb hr hlocks hS dX5_readStone_73 hv hP hD
      · have hv := hv.2 hc_37
        refine lv_aload_n hx hb dX5_readStone_65 rfl (lv_at hl 4 rfl) ?_
        refine lv_iload_n hx hb dX5_readStone_66 rfl (lv_at hl 2 rfl) ?_
        refine lv_iload_n hx hb dX5_readStone_67 rfl (lv_at hl 1 rfl) ?_
        refine lv_iload hx hb dX5_readStone_68 (lv_at hl 0 rfl) ?_
        obtain ⟨hp, hv⟩ := hv
        refine x_callv (wr := [(e0, .inr (5, [.ref e01, .int xl, .int xf2_36, .int xg2_35, .int xa2_33, .int xt2_34, .int xr, .int xn])), aB G e01 400 bt]) (w' := fun (u : (Int32) × (Nat → Int32) × (Nat → Int32) × (Nat → Int32)) => [(e0, .inr (5, [.ref e01, .int xl, .int xf2_36, .int xg2_35, .int xa2_33, .int xt2_34, .int xr, .int xn])), aB G e01 400 bt, (t, .inr (6, [.int u.1, .int np, .int fu, .int fd, .int fi, .ref t1, .ref t2, .ref t3, .ref t4, .ref t5, .ref t6])), aI G t1 9 u.2.1, aI G t2 9 u.2.2.1, aI G t3 9 u.2.2.2, aI G t4 8 kd, aI G t5 8 nd, aI G t6 8 fw]) (x_runV (As := [.int r_2, .int r_7, .int r_12]) (rest := []) (n := 3) (C := RX6) (ci := 6) ⟨hx, hb, hml, hown, hts⟩ (k_X6_addStone l G t t1 t2 t3 t4 t5 t6 _ ns np fu fd fi sz_ pt fh kd nd fw r_2 r_7 r_12 hp) gX5_readStone_X6_addStone rfl (by decide +kernel) ⟨Nat.le_trans (Nat.le_of_ble_eq_true rfl) hRf, Nat.le_trans (Nat.le_of_ble_eq_true rfl) hRl⟩ hKK hSS hS hA hP hD [2, 3, 4, 5, 6, 7, 8] (by decide) rfl rfl rfl 2 rfl rfl hl.1 rfl (Nat.le_of_ble_eq_true rfl) dX5_readStone_70) hP hD hS hA [2, 3, 4, 5, 6, 7, 8] [0, 1] [0, 1, 2, 3, 4, 5, 6, 7, 8] rfl rfl (by decide) (by decide) (by decide) (fun _ => rfl) (fun  u H locs hw hP hD hS => ?_)
        obtain ⟨ns2_39, sz2_40, pt2_41, fh2_42⟩ := u
        obtain ⟨hw0, hw1, hw2, hw3⟩ := hw
        replace hw0 := hw0.symm; subst hw0
        replace hw1 := hw1.symm; subst hw1
        replace hw2 := hw2.symm; subst hw2
        replace hw3 := hw3.symm; subst hw3
        have hP : va_P G.1 vwCl [(e0, .inr (5, [.ref e01, .int xl, .int xf2_36, .int xg2_35, .int xa2_33, .int xt2_34, .int xr, .int xn])), aB G e01 400 bt, (t, .inr (6, [.int (ns + 1), .int np, .int fu, .int fd, .int fi, .ref t1, .ref t2, .ref t3, .ref t4, .ref t5, .ref t6])), aI G t1 9 (upd sz_ ns.toNatClampNeg r_2), aI G t2 9 (upd pt ns.toNatClampNeg r_7), aI G t3 9 (upd fh ns.toNatClampNeg r_12), aI G t4 8 kd, aI G t5 8 nd, aI G t6 8 fw] H := hP
        have hD : va_D A [(e0, .inr (5, [.ref e01, .int xl, .int xf2_36, .int xg2_35, .int xa2_33, .int xt2_34, .int xr, .int xn])), aB G e01 400 bt, (t, .inr (6, [.int (ns + 1), .int np, .int fu, .int fd, .int fi, .ref t1, .ref t2, .ref t3, .ref t4, .ref t5, .ref t6])), aI G t1 9 (upd sz_ ns.toNatClampNeg r_2), aI G t2 9 (upd pt ns.toNatClampNeg r_7), aI G t3 9 (upd fh ns.toNatClampNeg r_12), aI G t4 8 kd, aI G t5 8 nd, aI G t6 8 fw] := hD
        exact x_vret (xa2_33, xt2_34, xg2_35, xf2_36, (ns + 1), (upd sz_ ns.toNatClampNeg r_2), (upd pt ns.toNatClampNeg r_7), (upd fh ns.toNatClampNeg r_12)) hQ hx hb hr hlocks hS dX5_readStone_73 hv hP hD
  · have hv := hv.2 hc_1
    refine lv_aload_n hx hb dX5_readStone_9 rfl (lv_at hl 0 rfl) ?_
    refine lv_iconst (v := 3) hx hb dX5_readStone_10 (by decide) ?_
    obtain ⟨hp, hv⟩ := hv
    refine x_callv (wr := [(t, .inr (6, [.int ns, .int np, .int fu, .int fd, .int fi, .ref t1, .ref t2, .ref t3, .ref t4, .ref t5, .ref t6])), aI G t1 9 sz_, aI G t2 9 pt, aI G t3 9 fh, aI G t4 8 kd, aI G t5 8 nd, aI G t6 8 fw]) (w' := fun (u : (Int32) × (Int32)) => [(e0, .inr (5, [.ref e01, .int xl, .int u.2, .int u.1, .int xa, .int xt, .int xr, .int xn])), aB G e01 400 bt, (t, .inr (6, [.int ns, .int np, .int fu, .int fd, .int fi, .ref t1, .ref t2, .ref t3, .ref t4, .ref t5, .ref t6])), aI G t1 9 sz_, aI G t2 9 pt, aI G t3 9 fh, aI G t4 8 kd, aI G t5 8 nd, aI G t6 8 fw]) (x_runV (As := [.int 3]) (rest := []) (n := 1) (C := RX5) (ci := 5) ⟨hx, hb, hml, hown, hts⟩ (k_X5_fail l G e0 e01 _ bt xl xf xg xa xt xr xn 3 hp) gX5_readStone_X5_fail rfl (by decide +kernel) ⟨Nat.le_trans (Nat.le_of_ble_eq_true rfl) hRf, Nat.le_trans (Nat.le_of_ble_eq_true rfl) hRl⟩ hKK hSS hS hA hP hD [0, 1] (by decide) rfl rfl rfl 0 rfl rfl hl.1 rfl (Nat.le_of_ble_eq_true rfl) dX5_readStone_11) hP hD hS hA [0, 1] [2, 3, 4, 5, 6, 7, 8] [7, 8, 0, 1, 2, 3, 4, 5, 6] rfl rfl (by decide) (by decide) (by decide) (fun _ => rfl) (fun  u H locs hw hP hD hS => ?_)
    obtain ⟨xg2_44, xf2_45⟩ := u
    have hP : va_P G.1 vwCl [(e0, .inr (5, [.ref e01, .int xl, .int xf2_45, .int xg2_44, .int xa, .int xt, .int xr, .int xn])), aB G e01 400 bt, (t, .inr (6, [.int ns, .int np, .int fu, .int fd, .int fi, .ref t1, .ref t2, .ref t3, .ref t4, .ref t5, .ref t6])), aI G t1 9 sz_, aI G t2 9 pt, aI G t3 9 fh, aI G t4 8 kd, aI G t5 8 nd, aI G t6 8 fw] H := hP
    have hD : va_D A [(e0, .inr (5, [.ref e01, .int xl, .int xf2_45, .int xg2_44, .int xa, .int xt, .int xr, .int xn])), aB G e01 400 bt, (t, .inr (6, [.int ns, .int np, .int fu, .int fd, .int fi, .ref t1, .ref t2, .ref t3, .ref t4, .ref t5, .ref t6])), aI G t1 9 sz_, aI G t2 9 pt, aI G t3 9 fh, aI G t4 8 kd, aI G t5 8 nd, aI G t6 8 fw] := hD
    have hv := hv xg2_44 xf2_45 hw
    exact x_vret (xa, xt, xg2_44, xf2_45, ns, sz_, pt, fh) hQ hx hb hr hlocks hS dX5_readStone_14 hv hP hD
theorem k_X5_readStone (l : Launch) (G : Gt) (e0 e01 t t1 t2 t3 t4 t5 t6 : Nat) (sz : Nat) (bt : Nat → Int32) (xl : Int32) (xf : Int32) (xg : Int32) (xa : Int32) (xt : Int32) (xr : Int32) (xn : Int32) (ns : Int32) (np : Int32) (fu : Int32) (fd : Int32) (fi : Int32) (sz_ : Nat → Int32) (pt : Nat → Int32) (fh : Nat → Int32) (kd : Nat → Int32) (nd : Nat → Int32) (fw : Nat → Int32) (hp : True) : MetV l yX5_readStone wsX5_readStone 2 45 G [.ref e0, .ref t] [(e0, .inr (5, [.ref e01, .int xl, .int xf, .int xg, .int xa, .int xt, .int xr, .int xn])), aB G e01 400 bt, (t, .inr (6, [.int ns, .int np, .int fu, .int fd, .int fi, .ref t1, .ref t2, .ref t3, .ref t4, .ref t5, .ref t6])), aI G t1 9 sz_, aI G t2 9 pt, aI G t3 9 fh, aI G t4 8 kd, aI G t5 8 nd, aI G t6 8 fw] sz (fun (u : (Int32) × (Int32) × (Int32) × (Int32) × (Int32) × (Nat → Int32) × (Nat → Int32) × (Nat → Int32)) => True) (fun (u : (Int32) × (Int32) × (Int32) × (Int32) × (Int32) × (Nat → Int32) × (Nat → Int32) × (Nat → Int32)) => [(e0, .inr (5, [.ref e01, .int xl, .int u.2.2.2.1, .int u.2.2.1, .int u.1, .int u.2.1, .int xr, .int xn])), aB G e01 400 bt, (t, .inr (6, [.int u.2.2.2.2.1, .int np, .int fu, .int fd, .int fi, .ref t1, .ref t2, .ref t3, .ref t4, .ref t5, .ref t6])), aI G t1 9 u.2.2.2.2.2.1, aI G t2 9 u.2.2.2.2.2.2.1, aI G t3 9 u.2.2.2.2.2.2.2, aI G t4 8 kd, aI G t5 8 nd, aI G t6 8 fw]) :=
  c_X5_readStone l G e0 e01 t t1 t2 t3 t4 t5 t6 sz bt xl xf xg xa xt xr xn ns np fu fd fi sz_ pt fh kd nd fw (by
    sorry)

set_option maxHeartbeats 4000000 in
set_option maxRecDepth 100000 in
theorem c_X5_readPerson (l : Launch) (G : Gt) (e0 e01 t t1 t2 t3 t4 t5 t6 : Nat) (sz : Nat) (bt : Nat → Int32) (xl : Int32) (xf : Int32) (xg : Int32) (xa : Int32) (xt : Int32) (xr : Int32) (xn : Int32) (ns : Int32) (np : Int32) (fu : Int32) (fd : Int32) (fi : Int32) (sz_ : Nat → Int32) (pt : Nat → Int32) (fh : Nat → Int32) (kd : Nat → Int32) (nd : Nat → Int32) (fw : Nat → Int32) (hv : (np < 8 → (True) ∧ (∀ (r_2 : Int32) (xa2_3 : Int32) (xt2_4 : Int32) (xg2_5 : Int32) (xf2_6 : Int32), (True) → ((True) ∧ (∀ (r_7 : Int32) (xa2_8 : Int32) (xt2_9 : Int32) (xg2_10 : Int32) (xf2_11 : Int32), (True) → ((True) ∧ (∀ (r_12 : Int32) (xa2_13 : Int32) (xt2_14 : Int32) (xg2_15 : Int32) (xf2_16 : Int32), (True) → ((True) ∧ (∀ (xa2_18 : Int32) (xt2_19 : Int32) (xg2_20 : Int32) (xf2_21 : Int32), (True) → ((¬ xg2_20 = 0 → True) ∧ (xg2_20 = 0 → (vp_in np 8 ∧ np < 8) ∧ (True))))))))))) ∧ (¬ (np < 8) → (True) ∧ (∀ (xg2_29 : Int32) (xf2_30 : Int32), (True) → (True)))) : MetV l yX5_readPerson wsX5_readPerson 6 127 G [.ref e0, .ref t] [(e0, .inr (5, [.ref e01, .int xl, .int xf, .int xg, .int xa, .int xt, .int xr, .int xn])), aB G e01 400 bt, (t, .inr (6, [.int ns, .int np, .int fu, .int fd, .int fi, .ref t1, .ref t2, .ref t3, .ref t4, .ref t5, .ref t6])), aI G t1 9 sz_, aI G t2 9 pt, aI G t3 9 fh, aI G t4 8 kd, aI G t5 8 nd, aI G t6 8 fw] sz (fun (u : (Int32) × (Int32) × (Int32) × (Int32) × (Int32) × (Nat → Int32) × (Nat → Int32) × (Nat → Int32)) => True) (fun (u : (Int32) × (Int32) × (Int32) × (Int32) × (Int32) × (Nat → Int32) × (Nat → Int32) × (Nat → Int32)) => [(e0, .inr (5, [.ref e01, .int xl, .int u.2.2.2.1, .int u.2.2.1, .int u.1, .int u.2.1, .int xr, .int xn])), aB G e01 400 bt, (t, .inr (6, [.int ns, .int u.2.2.2.2.1, .int fu, .int fd, .int fi, .ref t1, .ref t2, .ref t3, .ref t4, .ref t5, .ref t6])), aI G t1 9 sz_, aI G t2 9 pt, aI G t3 9 fh, aI G t4 8 u.2.2.2.2.2.1, aI G t5 8 u.2.2.2.2.2.2.1, aI G t6 8 u.2.2.2.2.2.2.2]) := by
  refine x_startV (cc := cX5_readPerson) (maxL := 5) (ret := none) (by decide) rfl (Nat.le_of_ble_eq_true rfl) ?_
  intro p e s m args below meth c A R Q ls hRf hRl hQ C hP hD hS hA hSS hl
  obtain ⟨hx, hb, hr, hml, hown, hts, hlocks, hKK⟩ := C
  have hown : s.vm.findClass RX5 = some m.cls := hown
  have hl : lv_has ls 5 [(0, .ref e0), (1, .ref t)] := hl
  have hinX5 : ∀ w ∈ u_ws RX5 TX5 8, w ∈ wsX5_readPerson := by decide +kernel
  have hinX6 : ∀ w ∈ u_ws RX6 TX6 11, w ∈ wsX5_readPerson := by decide +kernel
  have kl25 := hts (.fieldLink RX5 25 "WarmStones$Text" "fault" "I") (by decide +kernel)
  have kl96 := hts (.fieldLink RX5 96 "WarmStones$Town" "persons" "I") (by decide +kernel)
  refine lv_aload_n hx hb dX5_readPerson_0 rfl (lv_at hl 1 rfl) ?_
  refine va_get (D := G.1) (ci := 6) (v := .int np) (C := RX6) (T := TX6) (N := 11) hx hb hts hinX6 hown hKK.1 hP 2 rfl rfl 1 (by decide) kl96 (fun _ h9 => h9) rfl dX5_readPerson_1 ?_
  refine lv_bipush (v := 8) hx hb dX5_readPerson_4 (by decide) ?_
  refine lv_icmp_lt (tgt := 15) hx hb dX5_readPerson_6 (by decide) (fun hc_1 => ?_) (fun hc_1 => ?_)
  · have hv := hv.1 hc_1
    refine lv_aload_n hx hb dX5_readPerson_15 rfl (lv_at hl 0 rfl) ?_
    obtain ⟨hp, hv⟩ := hv
    refine x_calli (wr := [(t, .inr (6, [.int ns, .int np, .int fu, .int fd, .int fi, .ref t1, .ref t2, .ref t3, .ref t4, .ref t5, .ref t6])), aI G t1 9 sz_, aI G t2 9 pt, aI G t3 9 fh, aI G t4 8 kd, aI G t5 8 nd, aI G t6 8 fw]) (w' := fun (u : (Int32) × (Int32) × (Int32) × (Int32)) => [(e0, .inr (5, [.ref e01, .int xl, .int u.2.2.2, .int u.2.2.1, .int u.1, .int u.2.1, .int xr, .int xn])), aB G e01 400 bt, (t, .inr (6, [.int ns, .int np, .int fu, .int fd, .int fi, .ref t1, .ref t2, .ref t3, .ref t4, .ref t5, .ref t6])), aI G t1 9 sz_, aI G t2 9 pt, aI G t3 9 fh, aI G t4 8 kd, aI G t5 8 nd, aI G t6 8 fw]) (x_runV (As := []) (rest := []) (n := 0) (C := RX5) (ci := 5) ⟨hx, hb, hml, hown, hts⟩ (k_X5_readKind l G e0 e01 _ bt xl xf xg xa xt xr xn hp) gX5_readPerson_X5_readKind rfl (by decide +kernel) ⟨Nat.le_trans (Nat.le_of_ble_eq_true rfl) hRf, Nat.le_trans (Nat.le_of_ble_eq_true rfl) hRl⟩ hKK hSS hS hA hP hD [0, 1] (by decide) rfl rfl rfl 0 rfl rfl hl.1 rfl (Nat.le_of_ble_eq_true rfl) dX5_readPerson_16) hP hD hS hA [0, 1] [2, 3, 4, 5, 6, 7, 8] [7, 8, 0, 1, 2, 3, 4, 5, 6] rfl rfl (by decide) (by decide) (by decide) (fun _ => rfl) (fun r_2 u H locs hw hP hD hS => ?_)
    obtain ⟨xa2_3, xt2_4, xg2_5, xf2_6⟩ := u
    have hP : va_P G.1 vwCl [(e0, .inr (5, [.ref e01, .int xl, .int xf2_6, .int xg2_5, .int xa2_3, .int xt2_4, .int xr, .int xn])), aB G e01 400 bt, (t, .inr (6, [.int ns, .int np, .int fu, .int fd, .int fi, .ref t1, .ref t2, .ref t3, .ref t4, .ref t5, .ref t6])), aI G t1 9 sz_, aI G t2 9 pt, aI G t3 9 fh, aI G t4 8 kd, aI G t5 8 nd, aI G t6 8 fw] H := hP
    have hD : va_D A [(e0, .inr (5, [.ref e01, .int xl, .int xf2_6, .int xg2_5, .int xa2_3, .int xt2_4, .int xr, .int xn])), aB G e01 400 bt, (t, .inr (6, [.int ns, .int np, .int fu, .int fd, .int fi, .ref t1, .ref t2, .ref t3, .ref t4, .ref t5, .ref t6])), aI G t1 9 sz_, aI G t2 9 pt, aI G t3 9 fh, aI G t4 8 kd, aI G t5 8 nd, aI G t6 8 fw] := hD
    have hv := hv r_2 xa2_3 xt2_4 xg2_5 xf2_6 hw
    refine lv_istore_n (lv' := [(2, .int r_2), (0, .ref e0), (1, .ref t)]) hx hb dX5_readPerson_19 rfl hl (by decide) rfl (fun ls hl => ?_)
    refine lv_aload_n hx hb dX5_readPerson_20 rfl (lv_at hl 1 rfl) ?_
    refine lv_iconst (v := 0) hx hb dX5_readPerson_21 (by decide) ?_
    refine lv_sipush (v := 9999) hx hb dX5_readPerson_22 (by decide) ?_
    obtain ⟨hp, hv⟩ := hv
    refine x_calli (wr := [(t, .inr (6, [.int ns, .int np, .int fu, .int fd, .int fi, .ref t1, .ref t2, .ref t3, .ref t4, .ref t5, .ref t6])), aI G t1 9 sz_, aI G t2 9 pt, aI G t3 9 fh, aI G t4 8 kd, aI G t5 8 nd, aI G t6 8 fw]) (w' := fun (u : (Int32) × (Int32) × (Int32) × (Int32)) => [(e0, .inr (5, [.ref e01, .int xl, .int u.2.2.2, .int u.2.2.1, .int u.1, .int u.2.1, .int xr, .int xn])), aB G e01 400 bt, (t, .inr (6, [.int ns, .int np, .int fu, .int fd, .int fi, .ref t1, .ref t2, .ref t3, .ref t4, .ref t5, .ref t6])), aI G t1 9 sz_, aI G t2 9 pt, aI G t3 9 fh, aI G t4 8 kd, aI G t5 8 nd, aI G t6 8 fw]) (x_runV (As := [.int 0, .int 9999]) (rest := []) (n := 2) (C := RX5) (ci := 5) ⟨hx, hb, hml, hown, hts⟩ (k_X5_readNumber l G e0 e01 _ bt xl xf2_6 xg2_5 xa2_3 xt2_4 xr xn 0 9999 hp) gX5_readPerson_X5_readNumber rfl (by decide +kernel) ⟨Nat.le_trans (Nat.le_of_ble_eq_true rfl) hRf, Nat.le_trans (Nat.le_of_ble_eq_true rfl) hRl⟩ hKK hSS hS hA hP hD [0, 1] (by decide) rfl rfl rfl 0 rfl rfl hl.1 rfl (Nat.le_of_ble_eq_true rfl) dX5_readPerson_25) hP hD hS hA [0, 1] [2, 3, 4, 5, 6, 7, 8] [7, 8, 0, 1, 2, 3, 4, 5, 6] rfl rfl (by decide) (by decide) (by decide) (fun _ => rfl) (fun r_7 u H locs hw hP hD hS => ?_)
    obtain ⟨xa2_8, xt2_9, xg2_10, xf2_11⟩ := u
    have hP : va_P G.1 vwCl [(e0, .inr (5, [.ref e01, .int xl, .int xf2_11, .int xg2_10, .int xa2_8, .int xt2_9, .int xr, .int xn])), aB G e01 400 bt, (t, .inr (6, [.int ns, .int np, .int fu, .int fd, .int fi, .ref t1, .ref t2, .ref t3, .ref t4, .ref t5, .ref t6])), aI G t1 9 sz_, aI G t2 9 pt, aI G t3 9 fh, aI G t4 8 kd, aI G t5 8 nd, aI G t6 8 fw] H := hP
    have hD : va_D A [(e0, .inr (5, [.ref e01, .int xl, .int xf2_11, .int xg2_10, .int xa2_8, .int xt2_9, .int xr, .int xn])), aB G e01 400 bt, (t, .inr (6, [.int ns, .int np, .int fu, .int fd, .int fi, .ref t1, .ref t2, .ref t3, .ref t4, .ref t5, .ref t6])), aI G t1 9 sz_, aI G t2 9 pt, aI G t3 9 fh, aI G t4 8 kd, aI G t5 8 nd, aI G t6 8 fw] := hD
    have hv := hv r_7 xa2_8 xt2_9 xg2_10 xf2_11 hw
    refine lv_istore_n (lv' := [(3, .int r_7), (2, .int r_2), (0, .ref e0), (1, .ref t)]) hx hb dX5_readPerson_28 rfl hl (by decide) rfl (fun ls hl => ?_)
    refine lv_aload_n hx hb dX5_readPerson_29 rfl (lv_at hl 2 rfl) ?_
    refine lv_iconst (v := 0) hx hb dX5_readPerson_30 (by decide) ?_
    refine lv_sipush (v := 9999) hx hb dX5_readPerson_31 (by decide) ?_
    obtain ⟨hp, hv⟩ := hv
    refine x_calli (wr := [(t, .inr (6, [.int ns, .int np, .int fu, .int fd, .int fi, .ref t1, .ref t2, .ref t3, .ref t4, .ref t5, .ref t6])), aI G t1 9 sz_, aI G t2 9 pt, aI G t3 9 fh, aI G t4 8 kd, aI G t5 8 nd, aI G t6 8 fw]) (w' := fun (u : (Int32) × (Int32) × (Int32) × (Int32)) => [(e0, .inr (5, [.ref e01, .int xl, .int u.2.2.2, .int u.2.2.1, .int u.1, .int u.2.1, .int xr, .int xn])), aB G e01 400 bt, (t, .inr (6, [.int ns, .int np, .int fu, .int fd, .int fi, .ref t1, .ref t2, .ref t3, .ref t4, .ref t5, .ref t6])), aI G t1 9 sz_, aI G t2 9 pt, aI G t3 9 fh, aI G t4 8 kd, aI G t5 8 nd, aI G t6 8 fw]) (x_runV (As := [.int 0, .int 9999]) (rest := []) (n := 2) (C := RX5) (ci := 5) ⟨hx, hb, hml, hown, hts⟩ (k_X5_readNumber l G e0 e01 _ bt xl xf2_11 xg2_10 xa2_8 xt2_9 xr xn 0 9999 hp) gX5_readPerson_X5_readNumber rfl (by decide +kernel) ⟨Nat.le_trans (Nat.le_of_ble_eq_true rfl) hRf, Nat.le_trans (Nat.le_of_ble_eq_true rfl) hRl⟩ hKK hSS hS hA hP hD [0, 1] (by decide) rfl rfl rfl 0 rfl rfl hl.1 rfl (Nat.le_of_ble_eq_true rfl) dX5_readPerson_34) hP hD hS hA [0, 1] [2, 3, 4, 5, 6, 7, 8] [7, 8, 0, 1, 2, 3, 4, 5, 6] rfl rfl (by decide) (by decide) (by decide) (fun _ => rfl) (fun r_12 u H locs hw hP hD hS => ?_)
    obtain ⟨xa2_13, xt2_14, xg2_15, xf2_16⟩ := u
    have hP : va_P G.1 vwCl [(e0, .inr (5, [.ref e01, .int xl, .int xf2_16, .int xg2_15, .int xa2_13, .int xt2_14, .int xr, .int xn])), aB G e01 400 bt, (t, .inr (6, [.int ns, .int np, .int fu, .int fd, .int fi, .ref t1, .ref t2, .ref t3, .ref t4, .ref t5, .ref t6])), aI G t1 9 sz_, aI G t2 9 pt, aI G t3 9 fh, aI G t4 8 kd, aI G t5 8 nd, aI G t6 8 fw] H := hP
    have hD : va_D A [(e0, .inr (5, [.ref e01, .int xl, .int xf2_16, .int xg2_15, .int xa2_13, .int xt2_14, .int xr, .int xn])), aB G e01 400 bt, (t, .inr (6, [.int ns, .int np, .int fu, .int fd, .int fi, .ref t1, .ref t2, .ref t3, .ref t4, .ref t5, .ref t6])), aI G t1 9 sz_, aI G t2 9 pt, aI G t3 9 fh, aI G t4 8 kd, aI G t5 8 nd, aI G t6 8 fw] := hD
    have hv := hv r_12 xa2_13 xt2_14 xg2_15 xf2_16 hw
    refine lv_istore (lv' := [(4, .int r_12), (3, .int r_7), (2, .int r_2), (0, .ref e0), (1, .ref t)]) hx hb dX5_readPerson_37 hl (by decide) rfl (fun ls hl => ?_)
    refine lv_aload_n hx hb dX5_readPerson_39 rfl (lv_at hl 3 rfl) ?_
    obtain ⟨hp, hv⟩ := hv
    refine x_callv (wr := [(t, .inr (6, [.int ns, .int np, .int fu, .int fd, .int fi, .ref t1, .ref t2, .ref t3, .ref t4, .ref t5, .ref t6])), aI G t1 9 sz_, aI G t2 9 pt, aI G t3 9 fh, aI G t4 8 kd, aI G t5 8 nd, aI G t6 8 fw]) (w' := fun (u : (Int32) × (Int32) × (Int32) × (Int32)) => [(e0, .inr (5, [.ref e01, .int xl, .int u.2.2.2, .int u.2.2.1, .int u.1, .int u.2.1, .int xr, .int xn])), aB G e01 400 bt, (t, .inr (6, [.int ns, .int np, .int fu, .int fd, .int fi, .ref t1, .ref t2, .ref t3, .ref t4, .ref t5, .ref t6])), aI G t1 9 sz_, aI G t2 9 pt, aI G t3 9 fh, aI G t4 8 kd, aI G t5 8 nd, aI G t6 8 fw]) (x_runV (As := []) (rest := []) (n := 0) (C := RX5) (ci := 5) ⟨hx, hb, hml, hown, hts⟩ (k_X5_readEnd l G e0 e01 _ bt xl xf2_16 xg2_15 xa2_13 xt2_14 xr xn hp) gX5_readPerson_X5_readEnd rfl (by decide +kernel) ⟨Nat.le_trans (Nat.le_of_ble_eq_true rfl) hRf, Nat.le_trans (Nat.le_of_ble_eq_true rfl) hRl⟩ hKK hSS hS hA hP hD [0, 1] (by decide) rfl rfl rfl 0 rfl rfl hl.1 rfl (Nat.le_of_ble_eq_true rfl) dX5_readPerson_40) hP hD hS hA [0, 1] [2, 3, 4, 5, 6, 7, 8] [7, 8, 0, 1, 2, 3, 4, 5, 6] rfl rfl (by decide) (by decide) (by decide) (fun _ => rfl) (fun  u H locs hw hP hD hS => ?_)
    obtain ⟨xa2_18, xt2_19, xg2_20, xf2_21⟩ := u
    have hP : va_P G.1 vwCl [(e0, .inr (5, [.ref e01, .int xl, .int xf2_21, .int xg2_20, .int xa2_18, .int xt2_19, .int xr, .int xn])), aB G e01 400 bt, (t, .inr (6, [.int ns, .int np, .int fu, .int fd, .int fi, .ref t1, .ref t2, .ref t3, .ref t4, .ref t5, .ref t6])), aI G t1 9 sz_, aI G t2 9 pt, aI G t3 9 fh, aI G t4 8 kd, aI G t5 8 nd, aI G t6 8 fw] H := hP
    have hD : va_D A [(e0, .inr (5, [.ref e01, .int xl, .int xf2_21, .int xg2_20, .int xa2_18, .int xt2_19, .int xr, .int xn])), aB G e01 400 bt, (t, .inr (6, [.int ns, .int np, .int fu, .int fd, .int fi, .ref t1, .ref t2, .ref t3, .ref t4, .ref t5, .ref t6])), aI G t1 9 sz_, aI G t2 9 pt, aI G t3 9 fh, aI G t4 8 kd, aI G t5 8 nd, aI G t6 8 fw] := hD
    have hv := hv xa2_18 xt2_19 xg2_20 xf2_21 hw
    refine lv_aload_n hx hb dX5_readPerson_43 rfl (lv_at hl 3 rfl) ?_
    refine va_get (D := G.1) (ci := 5) (v := .int xg2_20) (C := RX5) (T := TX5) (N := 8) hx hb hts hinX5 hown hKK.1 hP 0 rfl rfl 3 (by decide) kl25 (fun _ h9 => h9) rfl dX5_readPerson_44 ?_
    refine lv_if_ne (tgt := 58) hx hb dX5_readPerson_47 (by decide) (fun hc_22 => ?_) (fun hc_22 => ?_)
    · have hv := hv.1 hc_22
      exact x_vret (xa2_18, xt2_19, xg2_20, xf2_21, np, kd, nd, fw) hQ hx hb hr hlocks hS dX5_readPerson_58 hv hP hD
    · have hv := hv.2 hc_22
      refine lv_aload_n hx hb dX5_readPerson_50 rfl (lv_at hl 4 rfl) ?_
      refine lv_iload_n hx hb dX5_readPerson_51 rfl (lv_at hl 2 rfl) ?_
      refine lv_iload_n hx hb dX5_readPerson_52 rfl (lv_at hl 1 rfl) ?_
      refine lv_iload hx hb dX5_readPerson_53 (lv_at hl 0 rfl) ?_
      obtain ⟨hp, hv⟩ := hv
      refine x_callv (wr := [(e0, .inr (5, [.ref e01, .int xl, .int xf2_21, .int xg2_20, .int xa2_18, .int xt2_19, .int xr, .int xn])), aB G e01 400 bt]) (w' := fun (u : (Int32) × (Nat → Int32) × (Nat → Int32) × (Nat → Int32)) => [(e0, .inr (5, [.ref e01, .int xl, .int xf2_21, .int xg2_20, .int xa2_18, .int xt2_19, .int xr, .int xn])), aB G e01 400 bt, (t, .inr (6, [.int ns, .int u.1, .int fu, .int fd, .int fi, .ref t1, .ref t2, .ref t3, .ref t4, .ref t5, .ref t6])), aI G t1 9 sz_, aI G t2 9 pt, aI G t3 9 fh, aI G t4 8 u.2.1, aI G t5 8 u.2.2.1, aI G t6 8 u.2.2.2]) (x_runV (As := [.int r_2, .int r_7, .int r_12]) (rest := []) (n := 3) (C := RX6) (ci := 6) ⟨hx, hb, hml, hown, hts⟩ (k_X6_addPerson l G t t1 t2 t3 t4 t5 t6 _ ns np fu fd fi sz_ pt fh kd nd fw r_2 r_7 r_12 hp) gX5_readPerson_X6_addPerson rfl (by decide +kernel) ⟨Nat.le_trans (Nat.le_of_ble_eq_true rfl) hRf, Nat.le_trans (Nat.le_of_ble_eq_true rfl) hRl⟩ hKK hSS hS hA hP hD [2, 3, 4, 5, 6, 7, 8] (by decide) rfl rfl rfl 2 rfl rfl hl.1 rfl (Nat.le_of_ble_eq_true rfl) dX5_readPerson_55) hP hD hS hA [2, 3, 4, 5, 6, 7, 8] [0, 1] [0, 1, 2, 3, 4, 5, 6, 7, 8] rfl rfl (by decide) (by decide) (by decide) (fun _ => rfl) (fun  u H locs hw hP hD hS => ?_)
      obtain ⟨np2_24, kd2_25, nd2_26, fw2_27⟩ := u
      obtain ⟨hw0, hw1, hw2, hw3⟩ := hw
      replace hw0 := hw0.symm; subst hw0
      replace hw1 := hw1.symm; subst hw1
      replace hw2 := hw2.symm; subst hw2
      replace hw3 := hw3.symm; subst hw3
      have hP : va_P G.1 vwCl [(e0, .inr (5, [.ref e01, .int xl, .int xf2_21, .int xg2_20, .int xa2_18, .int xt2_19, .int xr, .int xn])), aB G e01 400 bt, (t, .inr (6, [.int ns, .int (np + 1), .int fu, .int fd, .int fi, .ref t1, .ref t2, .ref t3, .ref t4, .ref t5, .ref t6])), aI G t1 9 sz_, aI G t2 9 pt, aI G t3 9 fh, aI G t4 8 (upd kd np.toNatClampNeg r_2), aI G t5 8 (upd nd np.toNatClampNeg r_12), aI G t6 8 (upd fw np.toNatClampNeg r_7)] H := hP
      have hD : va_D A [(e0, .inr (5, [.ref e01, .int xl, .int xf2_21, .int xg2_20, .int xa2_18, .int xt2_19, .int xr, .int xn])), aB G e01 400 bt, (t, .inr (6, [.int ns, .int (np + 1), .int fu, .int fd, .int fi, .ref t1, .ref t2, .ref t3, .ref t4, .ref t5, .ref t6])), aI G t1 9 sz_, aI G t2 9 pt, aI G t3 9 fh, aI G t4 8 (upd kd np.toNatClampNeg r_2), aI G t5 8 (upd nd np.toNatClampNeg r_12), aI G t6 8 (upd fw np.toNatClampNeg r_7)] := hD
      exact x_vret (xa2_18, xt2_19, xg2_20, xf2_21, (np + 1), (upd kd np.toNatClampNeg r_2), (upd nd np.toNatClampNeg r_12), (upd fw np.toNatClampNeg r_7)) hQ hx hb hr hlocks hS dX5_readPerson_58 hv hP hD
  · have hv := hv.2 hc_1
    refine lv_aload_n hx hb dX5_readPerson_9 rfl (lv_at hl 0 rfl) ?_
    refine lv_iconst (v := 3) hx hb dX5_readPerson_10 (by decide) ?_
    obtain ⟨hp, hv⟩ := hv
    refine x_callv (wr := [(t, .inr (6, [.int ns, .int np, .int fu, .int fd, .int fi, .ref t1, .ref t2, .ref t3, .ref t4, .ref t5, .ref t6])), aI G t1 9 sz_, aI G t2 9 pt, aI G t3 9 fh, aI G t4 8 kd, aI G t5 8 nd, aI G t6 8 fw]) (w' := fun (u : (Int32) × (Int32)) => [(e0, .inr (5, [.ref e01, .int xl, .int u.2, .int u.1, .int xa, .int xt, .int xr, .int xn])), aB G e01 400 bt, (t, .inr (6, [.int ns, .int np, .int fu, .int fd, .int fi, .ref t1, .ref t2, .ref t3, .ref t4, .ref t5, .ref t6])), aI G t1 9 sz_, aI G t2 9 pt, aI G t3 9 fh, aI G t4 8 kd, aI G t5 8 nd, aI G t6 8 fw]) (x_runV (As := [.int 3]) (rest := []) (n := 1) (C := RX5) (ci := 5) ⟨hx, hb, hml, hown, hts⟩ (k_X5_fail l G e0 e01 _ bt xl xf xg xa xt xr xn 3 hp) gX5_readPerson_X5_fail rfl (by decide +kernel) ⟨Nat.le_trans (Nat.le_of_ble_eq_true rfl) hRf, Nat.le_trans (Nat.le_of_ble_eq_true rfl) hRl⟩ hKK hSS hS hA hP hD [0, 1] (by decide) rfl rfl rfl 0 rfl rfl hl.1 rfl (Nat.le_of_ble_eq_true rfl) dX5_readPerson_11) hP hD hS hA [0, 1] [2, 3, 4, 5, 6, 7, 8] [7, 8, 0, 1, 2, 3, 4, 5, 6] rfl rfl (by decide) (by decide) (by decide) (fun _ => rfl) (fun  u H locs hw hP hD hS => ?_)
    obtain ⟨xg2_29, xf2_30⟩ := u
    have hP : va_P G.1 vwCl [(e0, .inr (5, [.ref e01, .int xl, .int xf2_30, .int xg2_29, .int xa, .int xt, .int xr, .int xn])), aB G e01 400 bt, (t, .inr (6, [.int ns, .int np, .int fu, .int fd, .int fi, .ref t1, .ref t2, .ref t3, .ref t4, .ref t5, .ref t6])), aI G t1 9 sz_, aI G t2 9 pt, aI G t3 9 fh, aI G t4 8 kd, aI G t5 8 nd, aI G t6 8 fw] H := hP
    have hD : va_D A [(e0, .inr (5, [.ref e01, .int xl, .int xf2_30, .int xg2_29, .int xa, .int xt, .int xr, .int xn])), aB G e01 400 bt, (t, .inr (6, [.int ns, .int np, .int fu, .int fd, .int fi, .ref t1, .ref t2, .ref t3, .ref t4, .ref t5, .ref t6])), aI G t1 9 sz_, aI G t2 9 pt, aI G t3 9 fh, aI G t4 8 kd, aI G t5 8 nd, aI G t6 8 fw] := hD
    have hv := hv xg2_29 xf2_30 hw
    exact x_vret (xa, xt, xg2_29, xf2_30, np, kd, nd, fw) hQ hx hb hr hlocks hS dX5_readPerson_14 hv hP hD
theorem k_X5_readPerson (l : Launch) (G : Gt) (e0 e01 t t1 t2 t3 t4 t5 t6 : Nat) (sz : Nat) (bt : Nat → Int32) (xl : Int32) (xf : Int32) (xg : Int32) (xa : Int32) (xt : Int32) (xr : Int32) (xn : Int32) (ns : Int32) (np : Int32) (fu : Int32) (fd : Int32) (fi : Int32) (sz_ : Nat → Int32) (pt : Nat → Int32) (fh : Nat → Int32) (kd : Nat → Int32) (nd : Nat → Int32) (fw : Nat → Int32) (hp : True) : MetV l yX5_readPerson wsX5_readPerson 6 127 G [.ref e0, .ref t] [(e0, .inr (5, [.ref e01, .int xl, .int xf, .int xg, .int xa, .int xt, .int xr, .int xn])), aB G e01 400 bt, (t, .inr (6, [.int ns, .int np, .int fu, .int fd, .int fi, .ref t1, .ref t2, .ref t3, .ref t4, .ref t5, .ref t6])), aI G t1 9 sz_, aI G t2 9 pt, aI G t3 9 fh, aI G t4 8 kd, aI G t5 8 nd, aI G t6 8 fw] sz (fun (u : (Int32) × (Int32) × (Int32) × (Int32) × (Int32) × (Nat → Int32) × (Nat → Int32) × (Nat → Int32)) => True) (fun (u : (Int32) × (Int32) × (Int32) × (Int32) × (Int32) × (Nat → Int32) × (Nat → Int32) × (Nat → Int32)) => [(e0, .inr (5, [.ref e01, .int xl, .int u.2.2.2.1, .int u.2.2.1, .int u.1, .int u.2.1, .int xr, .int xn])), aB G e01 400 bt, (t, .inr (6, [.int ns, .int u.2.2.2.2.1, .int fu, .int fd, .int fi, .ref t1, .ref t2, .ref t3, .ref t4, .ref t5, .ref t6])), aI G t1 9 sz_, aI G t2 9 pt, aI G t3 9 fh, aI G t4 8 u.2.2.2.2.2.1, aI G t5 8 u.2.2.2.2.2.2.1, aI G t6 8 u.2.2.2.2.2.2.2]) :=
  c_X5_readPerson l G e0 e01 t t1 t2 t3 t4 t5 t6 sz bt xl xf xg xa xt xr xn ns np fu fd fi sz_ pt fh kd nd fw (by
    sorry)

set_option maxHeartbeats 4000000 in
set_option maxRecDepth 100000 in
theorem c_X5_readFrost (l : Launch) (G : Gt) (e0 e01 t t1 t2 t3 t4 t5 t6 : Nat) (sz : Nat) (bt : Nat → Int32) (xl : Int32) (xf : Int32) (xg : Int32) (xa : Int32) (xt : Int32) (xr : Int32) (xn : Int32) (ns : Int32) (np : Int32) (fu : Int32) (fd : Int32) (fi : Int32) (sz_ : Nat → Int32) (pt : Nat → Int32) (fh : Nat → Int32) (kd : Nat → Int32) (nd : Nat → Int32) (fw : Nat → Int32) (hv : (xr = 0 → (True) ∧ (∀ (r_2 : Int32) (xa2_3 : Int32) (xt2_4 : Int32) (xg2_5 : Int32) (xf2_6 : Int32), (True) → ((True) ∧ (∀ (r_7 : Int32) (xa2_8 : Int32) (xt2_9 : Int32) (xg2_10 : Int32) (xf2_11 : Int32), (True) → ((True) ∧ (∀ (xa2_13 : Int32) (xt2_14 : Int32) (xg2_15 : Int32) (xf2_16 : Int32), (True) → (True))))))) ∧ (¬ (xr = 0) → (True) ∧ (∀ (xg2_18 : Int32) (xf2_19 : Int32), (True) → (True)))) : MetV l yX5_readFrost wsX5_readFrost 2 45 G [.ref e0, .ref t] [(e0, .inr (5, [.ref e01, .int xl, .int xf, .int xg, .int xa, .int xt, .int xr, .int xn])), aB G e01 400 bt, (t, .inr (6, [.int ns, .int np, .int fu, .int fd, .int fi, .ref t1, .ref t2, .ref t3, .ref t4, .ref t5, .ref t6])), aI G t1 9 sz_, aI G t2 9 pt, aI G t3 9 fh, aI G t4 8 kd, aI G t5 8 nd, aI G t6 8 fw] sz (fun (u : (Int32) × (Int32) × (Int32) × (Int32) × (Int32) × (Int32) × (Int32)) => True) (fun (u : (Int32) × (Int32) × (Int32) × (Int32) × (Int32) × (Int32) × (Int32)) => [(e0, .inr (5, [.ref e01, .int xl, .int u.2.2.2.1, .int u.2.2.1, .int u.1, .int u.2.1, .int u.2.2.2.2.1, .int xn])), aB G e01 400 bt, (t, .inr (6, [.int ns, .int np, .int u.2.2.2.2.2.1, .int u.2.2.2.2.2.2, .int fi, .ref t1, .ref t2, .ref t3, .ref t4, .ref t5, .ref t6])), aI G t1 9 sz_, aI G t2 9 pt, aI G t3 9 fh, aI G t4 8 kd, aI G t5 8 nd, aI G t6 8 fw]) := by
  refine x_startV (cc := cX5_readFrost) (maxL := 2) (ret := none) (by decide) rfl (Nat.le_of_ble_eq_true rfl) ?_
  intro p e s m args below meth c A R Q ls hRf hRl hQ C hP hD hS hA hSS hl
  obtain ⟨hx, hb, hr, hml, hown, hts, hlocks, hKK⟩ := C
  have hown : s.vm.findClass RX5 = some m.cls := hown
  have hl : lv_has ls 2 [(0, .ref e0), (1, .ref t)] := hl
  have hinX5 : ∀ w ∈ u_ws RX5 TX5 8, w ∈ wsX5_readFrost := by decide +kernel
  have hinX6 : ∀ w ∈ u_ws RX6 TX6 11, w ∈ wsX5_readFrost := by decide +kernel
  have kl106 := hts (.fieldLink RX5 106 "WarmStones$Town" "frostStanding" "I") (by decide +kernel)
  have kl109 := hts (.fieldLink RX5 109 "WarmStones$Town" "frostSitting" "I") (by decide +kernel)
  have kl28 := hts (.fieldLink RX5 28 "WarmStones$Text" "frostTold" "Z") (by decide +kernel)
  refine lv_aload_n hx hb dX5_readFrost_0 rfl (lv_at hl 0 rfl) ?_
  refine va_get (D := G.1) (ci := 5) (v := .int xr) (C := RX5) (T := TX5) (N := 8) hx hb hts hinX5 hown hKK.1 hP 0 rfl rfl 6 (by decide) kl28 (fun _ h9 => h9) rfl dX5_readFrost_1 ?_
  refine lv_if_eq (tgt := 13) hx hb dX5_readFrost_4 (by decide) (fun hc_1 => ?_) (fun hc_1 => ?_)
  · have hv := hv.1 hc_1
    refine lv_aload_n hx hb dX5_readFrost_13 rfl (lv_at hl 0 rfl) ?_
    refine lv_iconst (v := 1) hx hb dX5_readFrost_14 (by decide) ?_
    refine va_put (D := G.1) (ci := 5) (v := .int 1) (ty := .boolean) (C := RX5) (T := TX5) (N := 8) hx hb hts hinX5 tyX5 tyX5_ok nmX5 hown hKK.1 hP hD hS 0 rfl rfl 6 (by decide) kl28 (fun _ h9 => h9) rfl (by decide +kernel) rfl rfl (Nat.le_of_ble_eq_true rfl) dX5_readFrost_15 (fun H locs hP hD hS => ?_)
    have hP : va_P G.1 vwCl [(e0, .inr (5, [.ref e01, .int xl, .int xf, .int xg, .int xa, .int xt, .int 1, .int xn])), aB G e01 400 bt, (t, .inr (6, [.int ns, .int np, .int fu, .int fd, .int fi, .ref t1, .ref t2, .ref t3, .ref t4, .ref t5, .ref t6])), aI G t1 9 sz_, aI G t2 9 pt, aI G t3 9 fh, aI G t4 8 kd, aI G t5 8 nd, aI G t6 8 fw] H := hP
    have hD : va_D A [(e0, .inr (5, [.ref e01, .int xl, .int xf, .int xg, .int xa, .int xt, .int 1, .int xn])), aB G e01 400 bt, (t, .inr (6, [.int ns, .int np, .int fu, .int fd, .int fi, .ref t1, .ref t2, .ref t3, .ref t4, .ref t5, .ref t6])), aI G t1 9 sz_, aI G t2 9 pt, aI G t3 9 fh, aI G t4 8 kd, aI G t5 8 nd, aI G t6 8 fw] := hD
    refine lv_aload_n hx hb dX5_readFrost_18 rfl (lv_at hl 1 rfl) ?_
    refine lv_aload_n hx hb dX5_readFrost_19 rfl (lv_at hl 0 rfl) ?_
    refine lv_iconst (v := 0) hx hb dX5_readFrost_20 (by decide) ?_
    refine lv_bipush (v := 99) hx hb dX5_readFrost_21 (by decide) ?_
    obtain ⟨hp, hv⟩ := hv
    refine x_calli (wr := [(t, .inr (6, [.int ns, .int np, .int fu, .int fd, .int fi, .ref t1, .ref t2, .ref t3, .ref t4, .ref t5, .ref t6])), aI G t1 9 sz_, aI G t2 9 pt, aI G t3 9 fh, aI G t4 8 kd, aI G t5 8 nd, aI G t6 8 fw]) (w' := fun (u : (Int32) × (Int32) × (Int32) × (Int32)) => [(e0, .inr (5, [.ref e01, .int xl, .int u.2.2.2, .int u.2.2.1, .int u.1, .int u.2.1, .int 1, .int xn])), aB G e01 400 bt, (t, .inr (6, [.int ns, .int np, .int fu, .int fd, .int fi, .ref t1, .ref t2, .ref t3, .ref t4, .ref t5, .ref t6])), aI G t1 9 sz_, aI G t2 9 pt, aI G t3 9 fh, aI G t4 8 kd, aI G t5 8 nd, aI G t6 8 fw]) (x_runV (As := [.int 0, .int 99]) (rest := [.ref t]) (n := 2) (C := RX5) (ci := 5) ⟨hx, hb, hml, hown, hts⟩ (k_X5_readNumber l G e0 e01 _ bt xl xf xg xa xt 1 xn 0 99 hp) gX5_readFrost_X5_readNumber rfl (by decide +kernel) ⟨Nat.le_trans (Nat.le_of_ble_eq_true rfl) hRf, Nat.le_trans (Nat.le_of_ble_eq_true rfl) hRl⟩ hKK hSS hS hA hP hD [0, 1] (by decide) rfl rfl rfl 0 rfl rfl hl.1 rfl (Nat.le_of_ble_eq_true rfl) dX5_readFrost_23) hP hD hS hA [0, 1] [2, 3, 4, 5, 6, 7, 8] [7, 8, 0, 1, 2, 3, 4, 5, 6] rfl rfl (by decide) (by decide) (by decide) (fun _ => rfl) (fun r_2 u H locs hw hP hD hS => ?_)
    obtain ⟨xa2_3, xt2_4, xg2_5, xf2_6⟩ := u
    have hP : va_P G.1 vwCl [(e0, .inr (5, [.ref e01, .int xl, .int xf2_6, .int xg2_5, .int xa2_3, .int xt2_4, .int 1, .int xn])), aB G e01 400 bt, (t, .inr (6, [.int ns, .int np, .int fu, .int fd, .int fi, .ref t1, .ref t2, .ref t3, .ref t4, .ref t5, .ref t6])), aI G t1 9 sz_, aI G t2 9 pt, aI G t3 9 fh, aI G t4 8 kd, aI G t5 8 nd, aI G t6 8 fw] H := hP
    have hD : va_D A [(e0, .inr (5, [.ref e01, .int xl, .int xf2_6, .int xg2_5, .int xa2_3, .int xt2_4, .int 1, .int xn])), aB G e01 400 bt, (t, .inr (6, [.int ns, .int np, .int fu, .int fd, .int fi, .ref t1, .ref t2, .ref t3, .ref t4, .ref t5, .ref t6])), aI G t1 9 sz_, aI G t2 9 pt, aI G t3 9 fh, aI G t4 8 kd, aI G t5 8 nd, aI G t6 8 fw] := hD
    have hv := hv r_2 xa2_3 xt2_4 xg2_5 xf2_6 hw
    refine va_put (D := G.1) (ci := 6) (v := .int r_2) (ty := .int) (C := RX6) (T := TX6) (N := 11) hx hb hts hinX6 tyX6 tyX6_ok nmX6 hown hKK.1 hP hD hS 2 rfl rfl 2 (by decide) kl106 (fun _ h9 => h9) rfl (by decide +kernel) rfl rfl (Nat.le_of_ble_eq_true rfl) dX5_readFrost_26 (fun H locs hP hD hS => ?_)
    have hP : va_P G.1 vwCl [(e0, .inr (5, [.ref e01, .int xl, .int xf2_6, .int xg2_5, .int xa2_3, .int xt2_4, .int 1, .int xn])), aB G e01 400 bt, (t, .inr (6, [.int ns, .int np, .int r_2, .int fd, .int fi, .ref t1, .ref t2, .ref t3, .ref t4, .ref t5, .ref t6])), aI G t1 9 sz_, aI G t2 9 pt, aI G t3 9 fh, aI G t4 8 kd, aI G t5 8 nd, aI G t6 8 fw] H := hP
    have hD : va_D A [(e0, .inr (5, [.ref e01, .int xl, .int xf2_6, .int xg2_5, .int xa2_3, .int xt2_4, .int 1, .int xn])), aB G e01 400 bt, (t, .inr (6, [.int ns, .int np, .int r_2, .int fd, .int fi, .ref t1, .ref t2, .ref t3, .ref t4, .ref t5, .ref t6])), aI G t1 9 sz_, aI G t2 9 pt, aI G t3 9 fh, aI G t4 8 kd, aI G t5 8 nd, aI G t6 8 fw] := hD
    refine lv_aload_n hx hb dX5_readFrost_29 rfl (lv_at hl 1 rfl) ?_
    refine lv_aload_n hx hb dX5_readFrost_30 rfl (lv_at hl 0 rfl) ?_
    refine lv_iconst (v := 0) hx hb dX5_readFrost_31 (by decide) ?_
    refine lv_bipush (v := 99) hx hb dX5_readFrost_32 (by decide) ?_
    obtain ⟨hp, hv⟩ := hv
    refine x_calli (wr := [(t, .inr (6, [.int ns, .int np, .int r_2, .int fd, .int fi, .ref t1, .ref t2, .ref t3, .ref t4, .ref t5, .ref t6])), aI G t1 9 sz_, aI G t2 9 pt, aI G t3 9 fh, aI G t4 8 kd, aI G t5 8 nd, aI G t6 8 fw]) (w' := fun (u : (Int32) × (Int32) × (Int32) × (Int32)) => [(e0, .inr (5, [.ref e01, .int xl, .int u.2.2.2, .int u.2.2.1, .int u.1, .int u.2.1, .int 1, .int xn])), aB G e01 400 bt, (t, .inr (6, [.int ns, .int np, .int r_2, .int fd, .int fi, .ref t1, .ref t2, .ref t3, .ref t4, .ref t5, .ref t6])), aI G t1 9 sz_, aI G t2 9 pt, aI G t3 9 fh, aI G t4 8 kd, aI G t5 8 nd, aI G t6 8 fw]) (x_runV (As := [.int 0, .int 99]) (rest := [.ref t]) (n := 2) (C := RX5) (ci := 5) ⟨hx, hb, hml, hown, hts⟩ (k_X5_readNumber l G e0 e01 _ bt xl xf2_6 xg2_5 xa2_3 xt2_4 1 xn 0 99 hp) gX5_readFrost_X5_readNumber rfl (by decide +kernel) ⟨Nat.le_trans (Nat.le_of_ble_eq_true rfl) hRf, Nat.le_trans (Nat.le_of_ble_eq_true rfl) hRl⟩ hKK hSS hS hA hP hD [0, 1] (by decide) rfl rfl rfl 0 rfl rfl hl.1 rfl (Nat.le_of_ble_eq_true rfl) dX5_readFrost_34) hP hD hS hA [0, 1] [2, 3, 4, 5, 6, 7, 8] [7, 8, 0, 1, 2, 3, 4, 5, 6] rfl rfl (by decide) (by decide) (by decide) (fun _ => rfl) (fun r_7 u H locs hw hP hD hS => ?_)
    obtain ⟨xa2_8, xt2_9, xg2_10, xf2_11⟩ := u
    have hP : va_P G.1 vwCl [(e0, .inr (5, [.ref e01, .int xl, .int xf2_11, .int xg2_10, .int xa2_8, .int xt2_9, .int 1, .int xn])), aB G e01 400 bt, (t, .inr (6, [.int ns, .int np, .int r_2, .int fd, .int fi, .ref t1, .ref t2, .ref t3, .ref t4, .ref t5, .ref t6])), aI G t1 9 sz_, aI G t2 9 pt, aI G t3 9 fh, aI G t4 8 kd, aI G t5 8 nd, aI G t6 8 fw] H := hP
    have hD : va_D A [(e0, .inr (5, [.ref e01, .int xl, .int xf2_11, .int xg2_10, .int xa2_8, .int xt2_9, .int 1, .int xn])), aB G e01 400 bt, (t, .inr (6, [.int ns, .int np, .int r_2, .int fd, .int fi, .ref t1, .ref t2, .ref t3, .ref t4, .ref t5, .ref t6])), aI G t1 9 sz_, aI G t2 9 pt, aI G t3 9 fh, aI G t4 8 kd, aI G t5 8 nd, aI G t6 8 fw] := hD
    have hv := hv r_7 xa2_8 xt2_9 xg2_10 xf2_11 hw
    refine va_put (D := G.1) (ci := 6) (v := .int r_7) (ty := .int) (C := RX6) (T := TX6) (N := 11) hx hb hts hinX6 tyX6 tyX6_ok nmX6 hown hKK.1 hP hD hS 2 rfl rfl 3 (by decide) kl109 (fun _ h9 => h9) rfl (by decide +kernel) rfl rfl (Nat.le_of_ble_eq_true rfl) dX5_readFrost_37 (fun H locs hP hD hS => ?_)
    have hP : va_P G.1 vwCl [(e0, .inr (5, [.ref e01, .int xl, .int xf2_11, .int xg2_10, .int xa2_8, .int xt2_9, .int 1, .int xn])), aB G e01 400 bt, (t, .inr (6, [.int ns, .int np, .int r_2, .int r_7, .int fi, .ref t1, .ref t2, .ref t3, .ref t4, .ref t5, .ref t6])), aI G t1 9 sz_, aI G t2 9 pt, aI G t3 9 fh, aI G t4 8 kd, aI G t5 8 nd, aI G t6 8 fw] H := hP
    have hD : va_D A [(e0, .inr (5, [.ref e01, .int xl, .int xf2_11, .int xg2_10, .int xa2_8, .int xt2_9, .int 1, .int xn])), aB G e01 400 bt, (t, .inr (6, [.int ns, .int np, .int r_2, .int r_7, .int fi, .ref t1, .ref t2, .ref t3, .ref t4, .ref t5, .ref t6])), aI G t1 9 sz_, aI G t2 9 pt, aI G t3 9 fh, aI G t4 8 kd, aI G t5 8 nd, aI G t6 8 fw] := hD
    refine lv_aload_n hx hb dX5_readFrost_40 rfl (lv_at hl 0 rfl) ?_
    obtain ⟨hp, hv⟩ := hv
    refine x_callv (wr := [(t, .inr (6, [.int ns, .int np, .int r_2, .int r_7, .int fi, .ref t1, .ref t2, .ref t3, .ref t4, .ref t5, .ref t6])), aI G t1 9 sz_, aI G t2 9 pt, aI G t3 9 fh, aI G t4 8 kd, aI G t5 8 nd, aI G t6 8 fw]) (w' := fun (u : (Int32) × (Int32) × (Int32) × (Int32)) => [(e0, .inr (5, [.ref e01, .int xl, .int u.2.2.2, .int u.2.2.1, .int u.1, .int u.2.1, .int 1, .int xn])), aB G e01 400 bt, (t, .inr (6, [.int ns, .int np, .int r_2, .int r_7, .int fi, .ref t1, .ref t2, .ref t3, .ref t4, .ref t5, .ref t6])), aI G t1 9 sz_, aI G t2 9 pt, aI G t3 9 fh, aI G t4 8 kd, aI G t5 8 nd, aI G t6 8 fw]) (x_runV (As := []) (rest := []) (n := 0) (C := RX5) (ci := 5) ⟨hx, hb, hml, hown, hts⟩ (k_X5_readEnd l G e0 e01 _ bt xl xf2_11 xg2_10 xa2_8 xt2_9 1 xn hp) gX5_readFrost_X5_readEnd rfl (by decide +kernel) ⟨Nat.le_trans (Nat.le_of_ble_eq_true rfl) hRf, Nat.le_trans (Nat.le_of_ble_eq_true rfl) hRl⟩ hKK hSS hS hA hP hD [0, 1] (by decide) rfl rfl rfl 0 rfl rfl hl.1 rfl (Nat.le_of_ble_eq_true rfl) dX5_readFrost_41) hP hD hS hA [0, 1] [2, 3, 4, 5, 6, 7, 8] [7, 8, 0, 1, 2, 3, 4, 5, 6] rfl rfl (by decide) (by decide) (by decide) (fun _ => rfl) (fun  u H locs hw hP hD hS => ?_)
    obtain ⟨xa2_13, xt2_14, xg2_15, xf2_16⟩ := u
    have hP : va_P G.1 vwCl [(e0, .inr (5, [.ref e01, .int xl, .int xf2_16, .int xg2_15, .int xa2_13, .int xt2_14, .int 1, .int xn])), aB G e01 400 bt, (t, .inr (6, [.int ns, .int np, .int r_2, .int r_7, .int fi, .ref t1, .ref t2, .ref t3, .ref t4, .ref t5, .ref t6])), aI G t1 9 sz_, aI G t2 9 pt, aI G t3 9 fh, aI G t4 8 kd, aI G t5 8 nd, aI G t6 8 fw] H := hP
    have hD : va_D A [(e0, .inr (5, [.ref e01, .int xl, .int xf2_16, .int xg2_15, .int xa2_13, .int xt2_14, .int 1, .int xn])), aB G e01 400 bt, (t, .inr (6, [.int ns, .int np, .int r_2, .int r_7, .int fi, .ref t1, .ref t2, .ref t3, .ref t4, .ref t5, .ref t6])), aI G t1 9 sz_, aI G t2 9 pt, aI G t3 9 fh, aI G t4 8 kd, aI G t5 8 nd, aI G t6 8 fw] := hD
    have hv := hv xa2_13 xt2_14 xg2_15 xf2_16 hw
    exact x_vret (xa2_13, xt2_14, xg2_15, xf2_16, 1, r_2, r_7) hQ hx hb hr hlocks hS dX5_readFrost_44 hv hP hD
  · have hv := hv.2 hc_1
    refine lv_aload_n hx hb dX5_readFrost_7 rfl (lv_at hl 0 rfl) ?_
    refine lv_iconst (v := 3) hx hb dX5_readFrost_8 (by decide) ?_
    obtain ⟨hp, hv⟩ := hv
    refine x_callv (wr := [(t, .inr (6, [.int ns, .int np, .int fu, .int fd, .int fi, .ref t1, .ref t2, .ref t3, .ref t4, .ref t5, .ref t6])), aI G t1 9 sz_, aI G t2 9 pt, aI G t3 9 fh, aI G t4 8 kd, aI G t5 8 nd, aI G t6 8 fw]) (w' := fun (u : (Int32) × (Int32)) => [(e0, .inr (5, [.ref e01, .int xl, .int u.2, .int u.1, .int xa, .int xt, .int xr, .int xn])), aB G e01 400 bt, (t, .inr (6, [.int ns, .int np, .int fu, .int fd, .int fi, .ref t1, .ref t2, .ref t3, .ref t4, .ref t5, .ref t6])), aI G t1 9 sz_, aI G t2 9 pt, aI G t3 9 fh, aI G t4 8 kd, aI G t5 8 nd, aI G t6 8 fw]) (x_runV (As := [.int 3]) (rest := []) (n := 1) (C := RX5) (ci := 5) ⟨hx, hb, hml, hown, hts⟩ (k_X5_fail l G e0 e01 _ bt xl xf xg xa xt xr xn 3 hp) gX5_readFrost_X5_fail rfl (by decide +kernel) ⟨Nat.le_trans (Nat.le_of_ble_eq_true rfl) hRf, Nat.le_trans (Nat.le_of_ble_eq_true rfl) hRl⟩ hKK hSS hS hA hP hD [0, 1] (by decide) rfl rfl rfl 0 rfl rfl hl.1 rfl (Nat.le_of_ble_eq_true rfl) dX5_readFrost_9) hP hD hS hA [0, 1] [2, 3, 4, 5, 6, 7, 8] [7, 8, 0, 1, 2, 3, 4, 5, 6] rfl rfl (by decide) (by decide) (by decide) (fun _ => rfl) (fun  u H locs hw hP hD hS => ?_)
    obtain ⟨xg2_18, xf2_19⟩ := u
    have hP : va_P G.1 vwCl [(e0, .inr (5, [.ref e01, .int xl, .int xf2_19, .int xg2_18, .int xa, .int xt, .int xr, .int xn])), aB G e01 400 bt, (t, .inr (6, [.int ns, .int np, .int fu, .int fd, .int fi, .ref t1, .ref t2, .ref t3, .ref t4, .ref t5, .ref t6])), aI G t1 9 sz_, aI G t2 9 pt, aI G t3 9 fh, aI G t4 8 kd, aI G t5 8 nd, aI G t6 8 fw] H := hP
    have hD : va_D A [(e0, .inr (5, [.ref e01, .int xl, .int xf2_19, .int xg2_18, .int xa, .int xt, .int xr, .int xn])), aB G e01 400 bt, (t, .inr (6, [.int ns, .int np, .int fu, .int fd, .int fi, .ref t1, .ref t2, .ref t3, .ref t4, .ref t5, .ref t6])), aI G t1 9 sz_, aI G t2 9 pt, aI G t3 9 fh, aI G t4 8 kd, aI G t5 8 nd, aI G t6 8 fw] := hD
    have hv := hv xg2_18 xf2_19 hw
    exact x_vret (xa, xt, xg2_18, xf2_19, xr, fu, fd) hQ hx hb hr hlocks hS dX5_readFrost_12 hv hP hD
theorem k_X5_readFrost (l : Launch) (G : Gt) (e0 e01 t t1 t2 t3 t4 t5 t6 : Nat) (sz : Nat) (bt : Nat → Int32) (xl : Int32) (xf : Int32) (xg : Int32) (xa : Int32) (xt : Int32) (xr : Int32) (xn : Int32) (ns : Int32) (np : Int32) (fu : Int32) (fd : Int32) (fi : Int32) (sz_ : Nat → Int32) (pt : Nat → Int32) (fh : Nat → Int32) (kd : Nat → Int32) (nd : Nat → Int32) (fw : Nat → Int32) (hp : True) : MetV l yX5_readFrost wsX5_readFrost 2 45 G [.ref e0, .ref t] [(e0, .inr (5, [.ref e01, .int xl, .int xf, .int xg, .int xa, .int xt, .int xr, .int xn])), aB G e01 400 bt, (t, .inr (6, [.int ns, .int np, .int fu, .int fd, .int fi, .ref t1, .ref t2, .ref t3, .ref t4, .ref t5, .ref t6])), aI G t1 9 sz_, aI G t2 9 pt, aI G t3 9 fh, aI G t4 8 kd, aI G t5 8 nd, aI G t6 8 fw] sz (fun (u : (Int32) × (Int32) × (Int32) × (Int32) × (Int32) × (Int32) × (Int32)) => True) (fun (u : (Int32) × (Int32) × (Int32) × (Int32) × (Int32) × (Int32) × (Int32)) => [(e0, .inr (5, [.ref e01, .int xl, .int u.2.2.2.1, .int u.2.2.1, .int u.1, .int u.2.1, .int u.2.2.2.2.1, .int xn])), aB G e01 400 bt, (t, .inr (6, [.int ns, .int np, .int u.2.2.2.2.2.1, .int u.2.2.2.2.2.2, .int fi, .ref t1, .ref t2, .ref t3, .ref t4, .ref t5, .ref t6])), aI G t1 9 sz_, aI G t2 9 pt, aI G t3 9 fh, aI G t4 8 kd, aI G t5 8 nd, aI G t6 8 fw]) :=
  c_X5_readFrost l G e0 e01 t t1 t2 t3 t4 t5 t6 sz bt xl xf xg xa xt xr xn ns np fu fd fi sz_ pt fh kd nd fw (by
    sorry)

set_option maxHeartbeats 4000000 in
set_option maxRecDepth 100000 in
theorem c_X5_readFine (l : Launch) (G : Gt) (e0 e01 t t1 t2 t3 t4 t5 t6 : Nat) (sz : Nat) (bt : Nat → Int32) (xl : Int32) (xf : Int32) (xg : Int32) (xa : Int32) (xt : Int32) (xr : Int32) (xn : Int32) (ns : Int32) (np : Int32) (fu : Int32) (fd : Int32) (fi : Int32) (sz_ : Nat → Int32) (pt : Nat → Int32) (fh : Nat → Int32) (kd : Nat → Int32) (nd : Nat → Int32) (fw : Nat → Int32) (hv : (xn = 0 → (True) ∧ (∀ (r_2 : Int32) (xa2_3 : Int32) (xt2_4 : Int32) (xg2_5 : Int32) (xf2_6 : Int32), (True) → ((True) ∧ (∀ (xa2_8 : Int32) (xt2_9 : Int32) (xg2_10 : Int32) (xf2_11 : Int32), (True) → (True))))) ∧ (¬ (xn = 0) → (True) ∧ (∀ (xg2_13 : Int32) (xf2_14 : Int32), (True) → (True)))) : MetV l yX5_readFine wsX5_readFine 2 45 G [.ref e0, .ref t] [(e0, .inr (5, [.ref e01, .int xl, .int xf, .int xg, .int xa, .int xt, .int xr, .int xn])), aB G e01 400 bt, (t, .inr (6, [.int ns, .int np, .int fu, .int fd, .int fi, .ref t1, .ref t2, .ref t3, .ref t4, .ref t5, .ref t6])), aI G t1 9 sz_, aI G t2 9 pt, aI G t3 9 fh, aI G t4 8 kd, aI G t5 8 nd, aI G t6 8 fw] sz (fun (u : (Int32) × (Int32) × (Int32) × (Int32) × (Int32) × (Int32)) => True) (fun (u : (Int32) × (Int32) × (Int32) × (Int32) × (Int32) × (Int32)) => [(e0, .inr (5, [.ref e01, .int xl, .int u.2.2.2.1, .int u.2.2.1, .int u.1, .int u.2.1, .int xr, .int u.2.2.2.2.1])), aB G e01 400 bt, (t, .inr (6, [.int ns, .int np, .int fu, .int fd, .int u.2.2.2.2.2, .ref t1, .ref t2, .ref t3, .ref t4, .ref t5, .ref t6])), aI G t1 9 sz_, aI G t2 9 pt, aI G t3 9 fh, aI G t4 8 kd, aI G t5 8 nd, aI G t6 8 fw]) := by
  refine x_startV (cc := cX5_readFine) (maxL := 2) (ret := none) (by decide) rfl (Nat.le_of_ble_eq_true rfl) ?_
  intro p e s m args below meth c A R Q ls hRf hRl hQ C hP hD hS hA hSS hl
  obtain ⟨hx, hb, hr, hml, hown, hts, hlocks, hKK⟩ := C
  have hown : s.vm.findClass RX5 = some m.cls := hown
  have hl : lv_has ls 2 [(0, .ref e0), (1, .ref t)] := hl
  have hinX5 : ∀ w ∈ u_ws RX5 TX5 8, w ∈ wsX5_readFine := by decide +kernel
  have hinX6 : ∀ w ∈ u_ws RX6 TX6 11, w ∈ wsX5_readFine := by decide +kernel
  have kl112 := hts (.fieldLink RX5 112 "WarmStones$Town" "fine" "I") (by decide +kernel)
  have kl32 := hts (.fieldLink RX5 32 "WarmStones$Text" "fineTold" "Z") (by decide +kernel)
  refine lv_aload_n hx hb dX5_readFine_0 rfl (lv_at hl 0 rfl) ?_
  refine va_get (D := G.1) (ci := 5) (v := .int xn) (C := RX5) (T := TX5) (N := 8) hx hb hts hinX5 hown hKK.1 hP 0 rfl rfl 7 (by decide) kl32 (fun _ h9 => h9) rfl dX5_readFine_1 ?_
  refine lv_if_eq (tgt := 13) hx hb dX5_readFine_4 (by decide) (fun hc_1 => ?_) (fun hc_1 => ?_)
  · have hv := hv.1 hc_1
    refine lv_aload_n hx hb dX5_readFine_13 rfl (lv_at hl 0 rfl) ?_
    refine lv_iconst (v := 1) hx hb dX5_readFine_14 (by decide) ?_
    refine va_put (D := G.1) (ci := 5) (v := .int 1) (ty := .boolean) (C := RX5) (T := TX5) (N := 8) hx hb hts hinX5 tyX5 tyX5_ok nmX5 hown hKK.1 hP hD hS 0 rfl rfl 7 (by decide) kl32 (fun _ h9 => h9) rfl (by decide +kernel) rfl rfl (Nat.le_of_ble_eq_true rfl) dX5_readFine_15 (fun H locs hP hD hS => ?_)
    have hP : va_P G.1 vwCl [(e0, .inr (5, [.ref e01, .int xl, .int xf, .int xg, .int xa, .int xt, .int xr, .int 1])), aB G e01 400 bt, (t, .inr (6, [.int ns, .int np, .int fu, .int fd, .int fi, .ref t1, .ref t2, .ref t3, .ref t4, .ref t5, .ref t6])), aI G t1 9 sz_, aI G t2 9 pt, aI G t3 9 fh, aI G t4 8 kd, aI G t5 8 nd, aI G t6 8 fw] H := hP
    have hD : va_D A [(e0, .inr (5, [.ref e01, .int xl, .int xf, .int xg, .int xa, .int xt, .int xr, .int 1])), aB G e01 400 bt, (t, .inr (6, [.int ns, .int np, .int fu, .int fd, .int fi, .ref t1, .ref t2, .ref t3, .ref t4, .ref t5, .ref t6])), aI G t1 9 sz_, aI G t2 9 pt, aI G t3 9 fh, aI G t4 8 kd, aI G t5 8 nd, aI G t6 8 fw] := hD
    refine lv_aload_n hx hb dX5_readFine_18 rfl (lv_at hl 1 rfl) ?_
    refine lv_aload_n hx hb dX5_readFine_19 rfl (lv_at hl 0 rfl) ?_
    refine lv_iconst (v := 0) hx hb dX5_readFine_20 (by decide) ?_
    refine lv_bipush (v := 99) hx hb dX5_readFine_21 (by decide) ?_
    obtain ⟨hp, hv⟩ := hv
    refine x_calli (wr := [(t, .inr (6, [.int ns, .int np, .int fu, .int fd, .int fi, .ref t1, .ref t2, .ref t3, .ref t4, .ref t5, .ref t6])), aI G t1 9 sz_, aI G t2 9 pt, aI G t3 9 fh, aI G t4 8 kd, aI G t5 8 nd, aI G t6 8 fw]) (w' := fun (u : (Int32) × (Int32) × (Int32) × (Int32)) => [(e0, .inr (5, [.ref e01, .int xl, .int u.2.2.2, .int u.2.2.1, .int u.1, .int u.2.1, .int xr, .int 1])), aB G e01 400 bt, (t, .inr (6, [.int ns, .int np, .int fu, .int fd, .int fi, .ref t1, .ref t2, .ref t3, .ref t4, .ref t5, .ref t6])), aI G t1 9 sz_, aI G t2 9 pt, aI G t3 9 fh, aI G t4 8 kd, aI G t5 8 nd, aI G t6 8 fw]) (x_runV (As := [.int 0, .int 99]) (rest := [.ref t]) (n := 2) (C := RX5) (ci := 5) ⟨hx, hb, hml, hown, hts⟩ (k_X5_readNumber l G e0 e01 _ bt xl xf xg xa xt xr 1 0 99 hp) gX5_readFine_X5_readNumber rfl (by decide +kernel) ⟨Nat.le_trans (Nat.le_of_ble_eq_true rfl) hRf, Nat.le_trans (Nat.le_of_ble_eq_true rfl) hRl⟩ hKK hSS hS hA hP hD [0, 1] (by decide) rfl rfl rfl 0 rfl rfl hl.1 rfl (Nat.le_of_ble_eq_true rfl) dX5_readFine_23) hP hD hS hA [0, 1] [2, 3, 4, 5, 6, 7, 8] [7, 8, 0, 1, 2, 3, 4, 5, 6] rfl rfl (by decide) (by decide) (by decide) (fun _ => rfl) (fun r_2 u H locs hw hP hD hS => ?_)
    obtain ⟨xa2_3, xt2_4, xg2_5, xf2_6⟩ := u
    have hP : va_P G.1 vwCl [(e0, .inr (5, [.ref e01, .int xl, .int xf2_6, .int xg2_5, .int xa2_3, .int xt2_4, .int xr, .int 1])), aB G e01 400 bt, (t, .inr (6, [.int ns, .int np, .int fu, .int fd, .int fi, .ref t1, .ref t2, .ref t3, .ref t4, .ref t5, .ref t6])), aI G t1 9 sz_, aI G t2 9 pt, aI G t3 9 fh, aI G t4 8 kd, aI G t5 8 nd, aI G t6 8 fw] H := hP
    have hD : va_D A [(e0, .inr (5, [.ref e01, .int xl, .int xf2_6, .int xg2_5, .int xa2_3, .int xt2_4, .int xr, .int 1])), aB G e01 400 bt, (t, .inr (6, [.int ns, .int np, .int fu, .int fd, .int fi, .ref t1, .ref t2, .ref t3, .ref t4, .ref t5, .ref t6])), aI G t1 9 sz_, aI G t2 9 pt, aI G t3 9 fh, aI G t4 8 kd, aI G t5 8 nd, aI G t6 8 fw] := hD
    have hv := hv r_2 xa2_3 xt2_4 xg2_5 xf2_6 hw
    refine va_put (D := G.1) (ci := 6) (v := .int r_2) (ty := .int) (C := RX6) (T := TX6) (N := 11) hx hb hts hinX6 tyX6 tyX6_ok nmX6 hown hKK.1 hP hD hS 2 rfl rfl 4 (by decide) kl112 (fun _ h9 => h9) rfl (by decide +kernel) rfl rfl (Nat.le_of_ble_eq_true rfl) dX5_readFine_26 (fun H locs hP hD hS => ?_)
    have hP : va_P G.1 vwCl [(e0, .inr (5, [.ref e01, .int xl, .int xf2_6, .int xg2_5, .int xa2_3, .int xt2_4, .int xr, .int 1])), aB G e01 400 bt, (t, .inr (6, [.int ns, .int np, .int fu, .int fd, .int r_2, .ref t1, .ref t2, .ref t3, .ref t4, .ref t5, .ref t6])), aI G t1 9 sz_, aI G t2 9 pt, aI G t3 9 fh, aI G t4 8 kd, aI G t5 8 nd, aI G t6 8 fw] H := hP
    have hD : va_D A [(e0, .inr (5, [.ref e01, .int xl, .int xf2_6, .int xg2_5, .int xa2_3, .int xt2_4, .int xr, .int 1])), aB G e01 400 bt, (t, .inr (6, [.int ns, .int np, .int fu, .int fd, .int r_2, .ref t1, .ref t2, .ref t3, .ref t4, .ref t5, .ref t6])), aI G t1 9 sz_, aI G t2 9 pt, aI G t3 9 fh, aI G t4 8 kd, aI G t5 8 nd, aI G t6 8 fw] := hD
    refine lv_aload_n hx hb dX5_readFine_29 rfl (lv_at hl 0 rfl) ?_
    obtain ⟨hp, hv⟩ := hv
    refine x_callv (wr := [(t, .inr (6, [.int ns, .int np, .int fu, .int fd, .int r_2, .ref t1, .ref t2, .ref t3, .ref t4, .ref t5, .ref t6])), aI G t1 9 sz_, aI G t2 9 pt, aI G t3 9 fh, aI G t4 8 kd, aI G t5 8 nd, aI G t6 8 fw]) (w' := fun (u : (Int32) × (Int32) × (Int32) × (Int32)) => [(e0, .inr (5, [.ref e01, .int xl, .int u.2.2.2, .int u.2.2.1, .int u.1, .int u.2.1, .int xr, .int 1])), aB G e01 400 bt, (t, .inr (6, [.int ns, .int np, .int fu, .int fd, .int r_2, .ref t1, .ref t2, .ref t3, .ref t4, .ref t5, .ref t6])), aI G t1 9 sz_, aI G t2 9 pt, aI G t3 9 fh, aI G t4 8 kd, aI G t5 8 nd, aI G t6 8 fw]) (x_runV (As := []) (rest := []) (n := 0) (C := RX5) (ci := 5) ⟨hx, hb, hml, hown, hts⟩ (k_X5_readEnd l G e0 e01 _ bt xl xf2_6 xg2_5 xa2_3 xt2_4 xr 1 hp) gX5_readFine_X5_readEnd rfl (by decide +kernel) ⟨Nat.le_trans (Nat.le_of_ble_eq_true rfl) hRf, Nat.le_trans (Nat.le_of_ble_eq_true rfl) hRl⟩ hKK hSS hS hA hP hD [0, 1] (by decide) rfl rfl rfl 0 rfl rfl hl.1 rfl (Nat.le_of_ble_eq_true rfl) dX5_readFine_30) hP hD hS hA [0, 1] [2, 3, 4, 5, 6, 7, 8] [7, 8, 0, 1, 2, 3, 4, 5, 6] rfl rfl (by decide) (by decide) (by decide) (fun _ => rfl) (fun  u H locs hw hP hD hS => ?_)
    obtain ⟨xa2_8, xt2_9, xg2_10, xf2_11⟩ := u
    have hP : va_P G.1 vwCl [(e0, .inr (5, [.ref e01, .int xl, .int xf2_11, .int xg2_10, .int xa2_8, .int xt2_9, .int xr, .int 1])), aB G e01 400 bt, (t, .inr (6, [.int ns, .int np, .int fu, .int fd, .int r_2, .ref t1, .ref t2, .ref t3, .ref t4, .ref t5, .ref t6])), aI G t1 9 sz_, aI G t2 9 pt, aI G t3 9 fh, aI G t4 8 kd, aI G t5 8 nd, aI G t6 8 fw] H := hP
    have hD : va_D A [(e0, .inr (5, [.ref e01, .int xl, .int xf2_11, .int xg2_10, .int xa2_8, .int xt2_9, .int xr, .int 1])), aB G e01 400 bt, (t, .inr (6, [.int ns, .int np, .int fu, .int fd, .int r_2, .ref t1, .ref t2, .ref t3, .ref t4, .ref t5, .ref t6])), aI G t1 9 sz_, aI G t2 9 pt, aI G t3 9 fh, aI G t4 8 kd, aI G t5 8 nd, aI G t6 8 fw] := hD
    have hv := hv xa2_8 xt2_9 xg2_10 xf2_11 hw
    exact x_vret (xa2_8, xt2_9, xg2_10, xf2_11, 1, r_2) hQ hx hb hr hlocks hS dX5_readFine_33 hv hP hD
  · have hv := hv.2 hc_1
    refine lv_aload_n hx hb dX5_readFine_7 rfl (lv_at hl 0 rfl) ?_
    refine lv_iconst (v := 3) hx hb dX5_readFine_8 (by decide) ?_
    obtain ⟨hp, hv⟩ := hv
    refine x_callv (wr := [(t, .inr (6, [.int ns, .int np, .int fu, .int fd, .int fi, .ref t1, .ref t2, .ref t3, .ref t4, .ref t5, .ref t6])), aI G t1 9 sz_, aI G t2 9 pt, aI G t3 9 fh, aI G t4 8 kd, aI G t5 8 nd, aI G t6 8 fw]) (w' := fun (u : (Int32) × (Int32)) => [(e0, .inr (5, [.ref e01, .int xl, .int u.2, .int u.1, .int xa, .int xt, .int xr, .int xn])), aB G e01 400 bt, (t, .inr (6, [.int ns, .int np, .int fu, .int fd, .int fi, .ref t1, .ref t2, .ref t3, .ref t4, .ref t5, .ref t6])), aI G t1 9 sz_, aI G t2 9 pt, aI G t3 9 fh, aI G t4 8 kd, aI G t5 8 nd, aI G t6 8 fw]) (x_runV (As := [.int 3]) (rest := []) (n := 1) (C := RX5) (ci := 5) ⟨hx, hb, hml, hown, hts⟩ (k_X5_fail l G e0 e01 _ bt xl xf xg xa xt xr xn 3 hp) gX5_readFine_X5_fail rfl (by decide +kernel) ⟨Nat.le_trans (Nat.le_of_ble_eq_true rfl) hRf, Nat.le_trans (Nat.le_of_ble_eq_true rfl) hRl⟩ hKK hSS hS hA hP hD [0, 1] (by decide) rfl rfl rfl 0 rfl rfl hl.1 rfl (Nat.le_of_ble_eq_true rfl) dX5_readFine_9) hP hD hS hA [0, 1] [2, 3, 4, 5, 6, 7, 8] [7, 8, 0, 1, 2, 3, 4, 5, 6] rfl rfl (by decide) (by decide) (by decide) (fun _ => rfl) (fun  u H locs hw hP hD hS => ?_)
    obtain ⟨xg2_13, xf2_14⟩ := u
    have hP : va_P G.1 vwCl [(e0, .inr (5, [.ref e01, .int xl, .int xf2_14, .int xg2_13, .int xa, .int xt, .int xr, .int xn])), aB G e01 400 bt, (t, .inr (6, [.int ns, .int np, .int fu, .int fd, .int fi, .ref t1, .ref t2, .ref t3, .ref t4, .ref t5, .ref t6])), aI G t1 9 sz_, aI G t2 9 pt, aI G t3 9 fh, aI G t4 8 kd, aI G t5 8 nd, aI G t6 8 fw] H := hP
    have hD : va_D A [(e0, .inr (5, [.ref e01, .int xl, .int xf2_14, .int xg2_13, .int xa, .int xt, .int xr, .int xn])), aB G e01 400 bt, (t, .inr (6, [.int ns, .int np, .int fu, .int fd, .int fi, .ref t1, .ref t2, .ref t3, .ref t4, .ref t5, .ref t6])), aI G t1 9 sz_, aI G t2 9 pt, aI G t3 9 fh, aI G t4 8 kd, aI G t5 8 nd, aI G t6 8 fw] := hD
    have hv := hv xg2_13 xf2_14 hw
    exact x_vret (xa, xt, xg2_13, xf2_14, xn, fi) hQ hx hb hr hlocks hS dX5_readFine_12 hv hP hD
theorem k_X5_readFine (l : Launch) (G : Gt) (e0 e01 t t1 t2 t3 t4 t5 t6 : Nat) (sz : Nat) (bt : Nat → Int32) (xl : Int32) (xf : Int32) (xg : Int32) (xa : Int32) (xt : Int32) (xr : Int32) (xn : Int32) (ns : Int32) (np : Int32) (fu : Int32) (fd : Int32) (fi : Int32) (sz_ : Nat → Int32) (pt : Nat → Int32) (fh : Nat → Int32) (kd : Nat → Int32) (nd : Nat → Int32) (fw : Nat → Int32) (hp : True) : MetV l yX5_readFine wsX5_readFine 2 45 G [.ref e0, .ref t] [(e0, .inr (5, [.ref e01, .int xl, .int xf, .int xg, .int xa, .int xt, .int xr, .int xn])), aB G e01 400 bt, (t, .inr (6, [.int ns, .int np, .int fu, .int fd, .int fi, .ref t1, .ref t2, .ref t3, .ref t4, .ref t5, .ref t6])), aI G t1 9 sz_, aI G t2 9 pt, aI G t3 9 fh, aI G t4 8 kd, aI G t5 8 nd, aI G t6 8 fw] sz (fun (u : (Int32) × (Int32) × (Int32) × (Int32) × (Int32) × (Int32)) => True) (fun (u : (Int32) × (Int32) × (Int32) × (Int32) × (Int32) × (Int32)) => [(e0, .inr (5, [.ref e01, .int xl, .int u.2.2.2.1, .int u.2.2.1, .int u.1, .int u.2.1, .int xr, .int u.2.2.2.2.1])), aB G e01 400 bt, (t, .inr (6, [.int ns, .int np, .int fu, .int fd, .int u.2.2.2.2.2, .ref t1, .ref t2, .ref t3, .ref t4, .ref t5, .ref t6])), aI G t1 9 sz_, aI G t2 9 pt, aI G t3 9 fh, aI G t4 8 kd, aI G t5 8 nd, aI G t6 8 fw]) :=
  c_X5_readFine l G e0 e01 t t1 t2 t3 t4 t5 t6 sz bt xl xf xg xa xt xr xn ns np fu fd fi sz_ pt fh kd nd fw (by
    sorry)

set_option maxHeartbeats 4000000 in
set_option maxRecDepth 100000 in
theorem c_X5_readClause (l : Launch) (G : Gt) (e0 e01 t t1 t2 t3 t4 t5 t6 : Nat) (sz : Nat) (bt : Nat → Int32) (xl : Int32) (xf : Int32) (xg : Int32) (xa : Int32) (xt : Int32) (xr : Int32) (xn : Int32) (ns : Int32) (np : Int32) (fu : Int32) (fd : Int32) (fi : Int32) (sz_ : Nat → Int32) (pt : Nat → Int32) (fh : Nat → Int32) (kd : Nat → Int32) (nd : Nat → Int32) (fw : Nat → Int32) (hv : (True) ∧ (∀ (xa2_2 : Int32) (xt2_3 : Int32), (True) → ((True) ∧ (∀ (r_4 : Int32), (True) → ((r_4 = 0 → (True) ∧ (∀ (r_6 : Int32), (True) → ((r_6 = 0 → (True) ∧ (∀ (r_8 : Int32), (True) → ((r_8 = 0 → (True) ∧ (∀ (r_10 : Int32), (True) → ((r_10 = 0 → (True) ∧ (∀ (xg2_13 : Int32) (xf2_14 : Int32), (True) → (True))) ∧ (¬ (r_10 = 0) → (True) ∧ (∀ (xa2_16 : Int32) (xt2_17 : Int32) (xg2_18 : Int32) (xf2_19 : Int32) (xn2_20 : Int32) (fi2_21 : Int32), (True) → (True)))))) ∧ (¬ (r_8 = 0) → (True) ∧ (∀ (xa2_23 : Int32) (xt2_24 : Int32) (xg2_25 : Int32) (xf2_26 : Int32) (xr2_27 : Int32) (fu2_28 : Int32) (fd2_29 : Int32), (True) → (True)))))) ∧ (¬ (r_6 = 0) → (True) ∧ (∀ (xa2_31 : Int32) (xt2_32 : Int32) (xg2_33 : Int32) (xf2_34 : Int32) (np2_35 : Int32) (kd2_36 : Nat → Int32) (nd2_37 : Nat → Int32) (fw2_38 : Nat → Int32), (True) → (True)))))) ∧ (¬ (r_4 = 0) → (True) ∧ (∀ (xa2_40 : Int32) (xt2_41 : Int32) (xg2_42 : Int32) (xf2_43 : Int32) (ns2_44 : Int32) (sz2_45 : Nat → Int32) (pt2_46 : Nat → Int32) (fh2_47 : Nat → Int32), (True) → (True)))))))) : MetV l yX5_readClause wsX5_readClause 7 151 G [.ref e0, .ref t] [(e0, .inr (5, [.ref e01, .int xl, .int xf, .int xg, .int xa, .int xt, .int xr, .int xn])), aB G e01 400 bt, (t, .inr (6, [.int ns, .int np, .int fu, .int fd, .int fi, .ref t1, .ref t2, .ref t3, .ref t4, .ref t5, .ref t6])), aI G t1 9 sz_, aI G t2 9 pt, aI G t3 9 fh, aI G t4 8 kd, aI G t5 8 nd, aI G t6 8 fw] sz (fun (u : (Int32) × (Int32) × (Int32) × (Int32) × (Int32) × (Int32) × (Int32) × (Nat → Int32) × (Nat → Int32) × (Nat → Int32) × (Int32) × (Nat → Int32) × (Nat → Int32) × (Nat → Int32) × (Int32) × (Int32) × (Int32)) => True) (fun (u : (Int32) × (Int32) × (Int32) × (Int32) × (Int32) × (Int32) × (Int32) × (Nat → Int32) × (Nat → Int32) × (Nat → Int32) × (Int32) × (Nat → Int32) × (Nat → Int32) × (Nat → Int32) × (Int32) × (Int32) × (Int32)) => [(e0, .inr (5, [.ref e01, .int xl, .int u.2.2.2.1, .int u.2.2.1, .int u.1, .int u.2.1, .int u.2.2.2.2.1, .int u.2.2.2.2.2.1])), aB G e01 400 bt, (t, .inr (6, [.int u.2.2.2.2.2.2.1, .int u.2.2.2.2.2.2.2.2.2.2.1, .int u.2.2.2.2.2.2.2.2.2.2.2.2.2.2.1, .int u.2.2.2.2.2.2.2.2.2.2.2.2.2.2.2.1, .int u.2.2.2.2.2.2.2.2.2.2.2.2.2.2.2.2, .ref t1, .ref t2, .ref t3, .ref t4, .ref t5, .ref t6])), aI G t1 9 u.2.2.2.2.2.2.2.1, aI G t2 9 u.2.2.2.2.2.2.2.2.1, aI G t3 9 u.2.2.2.2.2.2.2.2.2.1, aI G t4 8 u.2.2.2.2.2.2.2.2.2.2.2.1, aI G t5 8 u.2.2.2.2.2.2.2.2.2.2.2.2.1, aI G t6 8 u.2.2.2.2.2.2.2.2.2.2.2.2.2.1]) := by
  refine x_startV (cc := cX5_readClause) (maxL := 2) (ret := none) (by decide) rfl (Nat.le_of_ble_eq_true rfl) ?_
  intro p e s m args below meth c A R Q ls hRf hRl hQ C hP hD hS hA hSS hl
  obtain ⟨hx, hb, hr, hml, hown, hts, hlocks, hKK⟩ := C
  have hown : s.vm.findClass RX5 = some m.cls := hown
  have hl : lv_has ls 2 [(0, .ref e0), (1, .ref t)] := hl
  refine lv_aload_n hx hb dX5_readClause_0 rfl (lv_at hl 0 rfl) ?_
  obtain ⟨hp, hv⟩ := hv
  refine x_callv (wr := [(t, .inr (6, [.int ns, .int np, .int fu, .int fd, .int fi, .ref t1, .ref t2, .ref t3, .ref t4, .ref t5, .ref t6])), aI G t1 9 sz_, aI G t2 9 pt, aI G t3 9 fh, aI G t4 8 kd, aI G t5 8 nd, aI G t6 8 fw]) (w' := fun (u : (Int32) × (Int32)) => [(e0, .inr (5, [.ref e01, .int xl, .int xf, .int xg, .int u.1, .int u.2, .int xr, .int xn])), aB G e01 400 bt, (t, .inr (6, [.int ns, .int np, .int fu, .int fd, .int fi, .ref t1, .ref t2, .ref t3, .ref t4, .ref t5, .ref t6])), aI G t1 9 sz_, aI G t2 9 pt, aI G t3 9 fh, aI G t4 8 kd, aI G t5 8 nd, aI G t6 8 fw]) (x_runV (As := []) (rest := []) (n := 0) (C := RX5) (ci := 5) ⟨hx, hb, hml, hown, hts⟩ (k_X5_readWord l G e0 e01 _ bt xl xf xg xa xt xr xn hp) gX5_readClause_X5_readWord rfl (by decide +kernel) ⟨Nat.le_trans (Nat.le_of_ble_eq_true rfl) hRf, Nat.le_trans (Nat.le_of_ble_eq_true rfl) hRl⟩ hKK hSS hS hA hP hD [0, 1] (by decide) rfl rfl rfl 0 rfl rfl hl.1 rfl (Nat.le_of_ble_eq_true rfl) dX5_readClause_1) hP hD hS hA [0, 1] [2, 3, 4, 5, 6, 7, 8] [7, 8, 0, 1, 2, 3, 4, 5, 6] rfl rfl (by decide) (by decide) (by decide) (fun _ => rfl) (fun  u H locs hw hP hD hS => ?_)
  obtain ⟨xa2_2, xt2_3⟩ := u
  have hP : va_P G.1 vwCl [(e0, .inr (5, [.ref e01, .int xl, .int xf, .int xg, .int xa2_2, .int xt2_3, .int xr, .int xn])), aB G e01 400 bt, (t, .inr (6, [.int ns, .int np, .int fu, .int fd, .int fi, .ref t1, .ref t2, .ref t3, .ref t4, .ref t5, .ref t6])), aI G t1 9 sz_, aI G t2 9 pt, aI G t3 9 fh, aI G t4 8 kd, aI G t5 8 nd, aI G t6 8 fw] H := hP
  have hD : va_D A [(e0, .inr (5, [.ref e01, .int xl, .int xf, .int xg, .int xa2_2, .int xt2_3, .int xr, .int xn])), aB G e01 400 bt, (t, .inr (6, [.int ns, .int np, .int fu, .int fd, .int fi, .ref t1, .ref t2, .ref t3, .ref t4, .ref t5, .ref t6])), aI G t1 9 sz_, aI G t2 9 pt, aI G t3 9 fh, aI G t4 8 kd, aI G t5 8 nd, aI G t6 8 fw] := hD
  have hv := hv xa2_2 xt2_3 hw
  refine lv_aload_n hx hb dX5_readClause_4 rfl (lv_at hl 0 rfl) ?_
  refine va_ldcS hx hb hown (hSS.2.1 0 (by decide)) dX5_readClause_5 ?_
  obtain ⟨hp, hv⟩ := hv
  refine x_calliR (x_runV (As := [.ref (kS G 0)]) (rest := []) (n := 1) (C := RX5) (ci := 5) ⟨hx, hb, hml, hown, hts⟩ (k_X5_wordIs l G e0 e01 _ bt xl xf xg xa2_2 xt2_3 xr xn 0 (by decide) hp) gX5_readClause_X5_wordIs rfl (by decide +kernel) ⟨Nat.le_trans (Nat.le_of_ble_eq_true rfl) hRf, Nat.le_trans (Nat.le_of_ble_eq_true rfl) hRl⟩ hKK hSS hS hA hP hD [0, 1] (by decide) rfl rfl rfl 0 rfl rfl hl.1 rfl (Nat.le_of_ble_eq_true rfl) dX5_readClause_7) hP hD hS hA [0, 1] rfl (fun r_4 _ H locs hw hP hS => ?_)
  have hv := hv r_4 hw
  refine lv_if_eq (tgt := 21) hx hb dX5_readClause_10 (by decide) (fun hc_5 => ?_) (fun hc_5 => ?_)
  · have hv := hv.1 hc_5
    refine lv_aload_n hx hb dX5_readClause_21 rfl (lv_at hl 0 rfl) ?_
    refine va_ldcS hx hb hown (hSS.2.1 1 (by decide)) dX5_readClause_22 ?_
    obtain ⟨hp, hv⟩ := hv
    refine x_calliR (x_runV (As := [.ref (kS G 1)]) (rest := []) (n := 1) (C := RX5) (ci := 5) ⟨hx, hb, hml, hown, hts⟩ (k_X5_wordIs l G e0 e01 _ bt xl xf xg xa2_2 xt2_3 xr xn 1 (by decide) hp) gX5_readClause_X5_wordIs rfl (by decide +kernel) ⟨Nat.le_trans (Nat.le_of_ble_eq_true rfl) hRf, Nat.le_trans (Nat.le_of_ble_eq_true rfl) hRl⟩ hKK hSS hS hA hP hD [0, 1] (by decide) rfl rfl rfl 0 rfl rfl hl.1 rfl (Nat.le_of_ble_eq_true rfl) dX5_readClause_24) hP hD hS hA [0, 1] rfl (fun r_6 _ H locs hw hP hS => ?_)
    have hv := hv r_6 hw
    refine lv_if_eq (tgt := 38) hx hb dX5_readClause_27 (by decide) (fun hc_7 => ?_) (fun hc_7 => ?_)
    · have hv := hv.1 hc_7
      refine lv_aload_n hx hb dX5_readClause_38 rfl (lv_at hl 0 rfl) ?_
      refine va_ldcS hx hb hown (hSS.2.1 2 (by decide)) dX5_readClause_39 ?_
      obtain ⟨hp, hv⟩ := hv
      refine x_calliR (x_runV (As := [.ref (kS G 2)]) (rest := []) (n := 1) (C := RX5) (ci := 5) ⟨hx, hb, hml, hown, hts⟩ (k_X5_wordIs l G e0 e01 _ bt xl xf xg xa2_2 xt2_3 xr xn 2 (by decide) hp) gX5_readClause_X5_wordIs rfl (by decide +kernel) ⟨Nat.le_trans (Nat.le_of_ble_eq_true rfl) hRf, Nat.le_trans (Nat.le_of_ble_eq_true rfl) hRl⟩ hKK hSS hS hA hP hD [0, 1] (by decide) rfl rfl rfl 0 rfl rfl hl.1 rfl (Nat.le_of_ble_eq_true rfl) dX5_readClause_41) hP hD hS hA [0, 1] rfl (fun r_8 _ H locs hw hP hS => ?_)
      have hv := hv r_8 hw
      refine lv_if_eq (tgt := 55) hx hb dX5_readClause_44 (by decide) (fun hc_9 => ?_) (fun hc_9 => ?_)
      · have hv := hv.1 hc_9
        refine lv_aload_n hx hb dX5_readClause_55 rfl (lv_at hl 0 rfl) ?_
        refine va_ldcS hx hb hown (hSS.2.1 3 (by decide)) dX5_readClause_56 ?_
        obtain ⟨hp, hv⟩ := hv
        refine x_calliR (x_runV (As := [.ref (kS G 3)]) (rest := []) (n := 1) (C := RX5) (ci := 5) ⟨hx, hb, hml, hown, hts⟩ (k_X5_wordIs l G e0 e01 _ bt xl xf xg xa2_2 xt2_3 xr xn 3 (by decide) hp) gX5_readClause_X5_wordIs rfl (by decide +kernel) ⟨Nat.le_trans (Nat.le_of_ble_eq_true rfl) hRf, Nat.le_trans (Nat.le_of_ble_eq_true rfl) hRl⟩ hKK hSS hS hA hP hD [0, 1] (by decide) rfl rfl rfl 0 rfl rfl hl.1 rfl (Nat.le_of_ble_eq_true rfl) dX5_readClause_58) hP hD hS hA [0, 1] rfl (fun r_10 _ H locs hw hP hS => ?_)
        have hv := hv r_10 hw
        refine lv_if_eq (tgt := 72) hx hb dX5_readClause_61 (by decide) (fun hc_11 => ?_) (fun hc_11 => ?_)
        · have hv := hv.1 hc_11
          refine lv_aload_n hx hb dX5_readClause_72 rfl (lv_at hl 0 rfl) ?_
          refine lv_iconst (v := 1) hx hb dX5_readClause_73 (by decide) ?_
          obtain ⟨hp, hv⟩ := hv
          refine x_callv (wr := [(t, .inr (6, [.int ns, .int np, .int fu, .int fd, .int fi, .ref t1, .ref t2, .ref t3, .ref t4, .ref t5, .ref t6])), aI G t1 9 sz_, aI G t2 9 pt, aI G t3 9 fh, aI G t4 8 kd, aI G t5 8 nd, aI G t6 8 fw]) (w' := fun (u : (Int32) × (Int32)) => [(e0, .inr (5, [.ref e01, .int xl, .int u.2, .int u.1, .int xa2_2, .int xt2_3, .int xr, .int xn])), aB G e01 400 bt, (t, .inr (6, [.int ns, .int np, .int fu, .int fd, .int fi, .ref t1, .ref t2, .ref t3, .ref t4, .ref t5, .ref t6])), aI G t1 9 sz_, aI G t2 9 pt, aI G t3 9 fh, aI G t4 8 kd, aI G t5 8 nd, aI G t6 8 fw]) (x_runV (As := [.int 1]) (rest := []) (n := 1) (C := RX5) (ci := 5) ⟨hx, hb, hml, hown, hts⟩ (k_X5_fail l G e0 e01 _ bt xl xf xg xa2_2 xt2_3 xr xn 1 hp) gX5_readClause_X5_fail rfl (by decide +kernel) ⟨Nat.le_trans (Nat.le_of_ble_eq_true rfl) hRf, Nat.le_trans (Nat.le_of_ble_eq_true rfl) hRl⟩ hKK hSS hS hA hP hD [0, 1] (by decide) rfl rfl rfl 0 rfl rfl hl.1 rfl (Nat.le_of_ble_eq_true rfl) dX5_readClause_74) hP hD hS hA [0, 1] [2, 3, 4, 5, 6, 7, 8] [7, 8, 0, 1, 2, 3, 4, 5, 6] rfl rfl (by decide) (by decide) (by decide) (fun _ => rfl) (fun  u H locs hw hP hD hS => ?_)
          obtain ⟨xg2_13, xf2_14⟩ := u
          have hP : va_P G.1 vwCl [(e0, .inr (5, [.ref e01, .int xl, .int xf2_14, .int xg2_13, .int xa2_2, .int xt2_3, .int xr, .int xn])), aB G e01 400 bt, (t, .inr (6, [.int ns, .int np, .int fu, .int fd, .int fi, .ref t1, .ref t2, .ref t3, .ref t4, .ref t5, .ref t6])), aI G t1 9 sz_, aI G t2 9 pt, aI G t3 9 fh, aI G t4 8 kd, aI G t5 8 nd, aI G t6 8 fw] H := hP
          have hD : va_D A [(e0, .inr (5, [.ref e01, .int xl, .int xf2_14, .int xg2_13, .int xa2_2, .int xt2_3, .int xr, .int xn])), aB G e01 400 bt, (t, .inr (6, [.int ns, .int np, .int fu, .int fd, .int fi, .ref t1, .ref t2, .ref t3, .ref t4, .ref t5, .ref t6])), aI G t1 9 sz_, aI G t2 9 pt, aI G t3 9 fh, aI G t4 8 kd, aI G t5 8 nd, aI G t6 8 fw] := hD
          have hv := hv xg2_13 xf2_14 hw
          exact x_vret (xa2_2, xt2_3, xg2_13, xf2_14, xr, xn, ns, sz_, pt, fh, np, kd, nd, fw, fu, fd, fi) hQ hx hb hr hlocks hS dX5_readClause_77 hv hP hD
        · have hv := hv.2 hc_11
          refine lv_aload_n hx hb dX5_readClause_64 rfl (lv_at hl 0 rfl) ?_
          refine lv_aload_n hx hb dX5_readClause_65 rfl (lv_at hl 1 rfl) ?_
          obtain ⟨hp, hv⟩ := hv
          refine x_callv (wr := []) (w' := fun (u : (Int32) × (Int32) × (Int32) × (Int32) × (Int32) × (Int32)) => [(e0, .inr (5, [.ref e01, .int xl, .int u.2.2.2.1, .int u.2.2.1, .int u.1, .int u.2.1, .int xr, .int u.2.2.2.2.1])), aB G e01 400 bt, (t, .inr (6, [.int ns, .int np, .int fu, .int fd, .int u.2.2.2.2.2, .ref t1, .ref t2, .ref t3, .ref t4, .ref t5, .ref t6])), aI G t1 9 sz_, aI G t2 9 pt, aI G t3 9 fh, aI G t4 8 kd, aI G t5 8 nd, aI G t6 8 fw]) (x_runV (As := [.ref t]) (rest := []) (n := 1) (C := RX5) (ci := 5) ⟨hx, hb, hml, hown, hts⟩ (k_X5_readFine l G e0 e01 t t1 t2 t3 t4 t5 t6 _ bt xl xf xg xa2_2 xt2_3 xr xn ns np fu fd fi sz_ pt fh kd nd fw hp) gX5_readClause_X5_readFine rfl (by decide +kernel) ⟨Nat.le_trans (Nat.le_of_ble_eq_true rfl) hRf, Nat.le_trans (Nat.le_of_ble_eq_true rfl) hRl⟩ hKK hSS hS hA hP hD [0, 1, 2, 3, 4, 5, 6, 7, 8] (by decide) rfl rfl rfl 0 rfl rfl hl.1 rfl (Nat.le_of_ble_eq_true rfl) dX5_readClause_66) hP hD hS hA [0, 1, 2, 3, 4, 5, 6, 7, 8] [] [0, 1, 2, 3, 4, 5, 6, 7, 8] rfl rfl (by decide) (by decide) (by decide) (fun _ => rfl) (fun  u H locs hw hP hD hS => ?_)
          obtain ⟨xa2_16, xt2_17, xg2_18, xf2_19, xn2_20, fi2_21⟩ := u
          have hP : va_P G.1 vwCl [(e0, .inr (5, [.ref e01, .int xl, .int xf2_19, .int xg2_18, .int xa2_16, .int xt2_17, .int xr, .int xn2_20])), aB G e01 400 bt, (t, .inr (6, [.int ns, .int np, .int fu, .int fd, .int fi2_21, .ref t1, .ref t2, .ref t3, .ref t4, .ref t5, .ref t6])), aI G t1 9 sz_, aI G t2 9 pt, aI G t3 9 fh, aI G t4 8 kd, aI G t5 8 nd, aI G t6 8 fw] H := hP
          have hD : va_D A [(e0, .inr (5, [.ref e01, .int xl, .int xf2_19, .int xg2_18, .int xa2_16, .int xt2_17, .int xr, .int xn2_20])), aB G e01 400 bt, (t, .inr (6, [.int ns, .int np, .int fu, .int fd, .int fi2_21, .ref t1, .ref t2, .ref t3, .ref t4, .ref t5, .ref t6])), aI G t1 9 sz_, aI G t2 9 pt, aI G t3 9 fh, aI G t4 8 kd, aI G t5 8 nd, aI G t6 8 fw] := hD
          have hv := hv xa2_16 xt2_17 xg2_18 xf2_19 xn2_20 fi2_21 hw
          refine lv_goto (tgt := 77) hx hb dX5_readClause_69 (by decide) ?_
          exact x_vret (xa2_16, xt2_17, xg2_18, xf2_19, xr, xn2_20, ns, sz_, pt, fh, np, kd, nd, fw, fu, fd, fi2_21) hQ hx hb hr hlocks hS dX5_readClause_77 hv hP hD
      · have hv := hv.2 hc_9
        refine lv_aload_n hx hb dX5_readClause_47 rfl (lv_at hl 0 rfl) ?_
        refine lv_aload_n hx hb dX5_readClause_48 rfl (lv_at hl 1 rfl) ?_
        obtain ⟨hp, hv⟩ := hv
        refine x_callv (wr := []) (w' := fun (u : (Int32) × (Int32) × (Int32) × (Int32) × (Int32) × (Int32) × (Int32)) => [(e0, .inr (5, [.ref e01, .int xl, .int u.2.2.2.1, .int u.2.2.1, .int u.1, .int u.2.1, .int u.2.2.2.2.1, .int xn])), aB G e01 400 bt, (t, .inr (6, [.int ns, .int np, .int u.2.2.2.2.2.1, .int u.2.2.2.2.2.2, .int fi, .ref t1, .ref t2, .ref t3, .ref t4, .ref t5, .ref t6])), aI G t1 9 sz_, aI G t2 9 pt, aI G t3 9 fh, aI G t4 8 kd, aI G t5 8 nd, aI G t6 8 fw]) (x_runV (As := [.ref t]) (rest := []) (n := 1) (C := RX5) (ci := 5) ⟨hx, hb, hml, hown, hts⟩ (k_X5_readFrost l G e0 e01 t t1 t2 t3 t4 t5 t6 _ bt xl xf xg xa2_2 xt2_3 xr xn ns np fu fd fi sz_ pt fh kd nd fw hp) gX5_readClause_X5_readFrost rfl (by decide +kernel) ⟨Nat.le_trans (Nat.le_of_ble_eq_true rfl) hRf, Nat.le_trans (Nat.le_of_ble_eq_true rfl) hRl⟩ hKK hSS hS hA hP hD [0, 1, 2, 3, 4, 5, 6, 7, 8] (by decide) rfl rfl rfl 0 rfl rfl hl.1 rfl (Nat.le_of_ble_eq_true rfl) dX5_readClause_49) hP hD hS hA [0, 1, 2, 3, 4, 5, 6, 7, 8] [] [0, 1, 2, 3, 4, 5, 6, 7, 8] rfl rfl (by decide) (by decide) (by decide) (fun _ => rfl) (fun  u H locs hw hP hD hS => ?_)
        obtain ⟨xa2_23, xt2_24, xg2_25, xf2_26, xr2_27, fu2_28, fd2_29⟩ := u
        have hP : va_P G.1 vwCl [(e0, .inr (5, [.ref e01, .int xl, .int xf2_26, .int xg2_25, .int xa2_23, .int xt2_24, .int xr2_27, .int xn])), aB G e01 400 bt, (t, .inr (6, [.int ns, .int np, .int fu2_28, .int fd2_29, .int fi, .ref t1, .ref t2, .ref t3, .ref t4, .ref t5, .ref t6])), aI G t1 9 sz_, aI G t2 9 pt, aI G t3 9 fh, aI G t4 8 kd, aI G t5 8 nd, aI G t6 8 fw] H := hP
        have hD : va_D A [(e0, .inr (5, [.ref e01, .int xl, .int xf2_26, .int xg2_25, .int xa2_23, .int xt2_24, .int xr2_27, .int xn])), aB G e01 400 bt, (t, .inr (6, [.int ns, .int np, .int fu2_28, .int fd2_29, .int fi, .ref t1, .ref t2, .ref t3, .ref t4, .ref t5, .ref t6])), aI G t1 9 sz_, aI G t2 9 pt, aI G t3 9 fh, aI G t4 8 kd, aI G t5 8 nd, aI G t6 8 fw] := hD
        have hv := hv xa2_23 xt2_24 xg2_25 xf2_26 xr2_27 fu2_28 fd2_29 hw
        refine lv_goto (tgt := 77) hx hb dX5_readClause_52 (by decide) ?_
        exact x_vret (xa2_23, xt2_24, xg2_25, xf2_26, xr2_27, xn, ns, sz_, pt, fh, np, kd, nd, fw, fu2_28, fd2_29, fi) hQ hx hb hr hlocks hS dX5_readClause_77 hv hP hD
    · have hv := hv.2 hc_7
      refine lv_aload_n hx hb dX5_readClause_30 rfl (lv_at hl 0 rfl) ?_
      refine lv_aload_n hx hb dX5_readClause_31 rfl (lv_at hl 1 rfl) ?_
      obtain ⟨hp, hv⟩ := hv
      refine x_callv (wr := []) (w' := fun (u : (Int32) × (Int32) × (Int32) × (Int32) × (Int32) × (Nat → Int32) × (Nat → Int32) × (Nat → Int32)) => [(e0, .inr (5, [.ref e01, .int xl, .int u.2.2.2.1, .int u.2.2.1, .int u.1, .int u.2.1, .int xr, .int xn])), aB G e01 400 bt, (t, .inr (6, [.int ns, .int u.2.2.2.2.1, .int fu, .int fd, .int fi, .ref t1, .ref t2, .ref t3, .ref t4, .ref t5, .ref t6])), aI G t1 9 sz_, aI G t2 9 pt, aI G t3 9 fh, aI G t4 8 u.2.2.2.2.2.1, aI G t5 8 u.2.2.2.2.2.2.1, aI G t6 8 u.2.2.2.2.2.2.2]) (x_runV (As := [.ref t]) (rest := []) (n := 1) (C := RX5) (ci := 5) ⟨hx, hb, hml, hown, hts⟩ (k_X5_readPerson l G e0 e01 t t1 t2 t3 t4 t5 t6 _ bt xl xf xg xa2_2 xt2_3 xr xn ns np fu fd fi sz_ pt fh kd nd fw hp) gX5_readClause_X5_readPerson rfl (by decide +kernel) ⟨Nat.le_trans (Nat.le_of_ble_eq_true rfl) hRf, Nat.le_trans (Nat.le_of_ble_eq_true rfl) hRl⟩ hKK hSS hS hA hP hD [0, 1, 2, 3, 4, 5, 6, 7, 8] (by decide) rfl rfl rfl 0 rfl rfl hl.1 rfl (Nat.le_of_ble_eq_true rfl) dX5_readClause_32) hP hD hS hA [0, 1, 2, 3, 4, 5, 6, 7, 8] [] [0, 1, 2, 3, 4, 5, 6, 7, 8] rfl rfl (by decide) (by decide) (by decide) (fun _ => rfl) (fun  u H locs hw hP hD hS => ?_)
      obtain ⟨xa2_31, xt2_32, xg2_33, xf2_34, np2_35, kd2_36, nd2_37, fw2_38⟩ := u
      have hP : va_P G.1 vwCl [(e0, .inr (5, [.ref e01, .int xl, .int xf2_34, .int xg2_33, .int xa2_31, .int xt2_32, .int xr, .int xn])), aB G e01 400 bt, (t, .inr (6, [.int ns, .int np2_35, .int fu, .int fd, .int fi, .ref t1, .ref t2, .ref t3, .ref t4, .ref t5, .ref t6])), aI G t1 9 sz_, aI G t2 9 pt, aI G t3 9 fh, aI G t4 8 kd2_36, aI G t5 8 nd2_37, aI G t6 8 fw2_38] H := hP
      have hD : va_D A [(e0, .inr (5, [.ref e01, .int xl, .int xf2_34, .int xg2_33, .int xa2_31, .int xt2_32, .int xr, .int xn])), aB G e01 400 bt, (t, .inr (6, [.int ns, .int np2_35, .int fu, .int fd, .int fi, .ref t1, .ref t2, .ref t3, .ref t4, .ref t5, .ref t6])), aI G t1 9 sz_, aI G t2 9 pt, aI G t3 9 fh, aI G t4 8 kd2_36, aI G t5 8 nd2_37, aI G t6 8 fw2_38] := hD
      have hv := hv xa2_31 xt2_32 xg2_33 xf2_34 np2_35 kd2_36 nd2_37 fw2_38 hw
      refine lv_goto (tgt := 77) hx hb dX5_readClause_35 (by decide) ?_
      exact x_vret (xa2_31, xt2_32, xg2_33, xf2_34, xr, xn, ns, sz_, pt, fh, np2_35, kd2_36, nd2_37, fw2_38, fu, fd, fi) hQ hx hb hr hlocks hS dX5_readClause_77 hv hP hD
  · have hv := hv.2 hc_5
    refine lv_aload_n hx hb dX5_readClause_13 rfl (lv_at hl 0 rfl) ?_
    refine lv_aload_n hx hb dX5_readClause_14 rfl (lv_at hl 1 rfl) ?_
    obtain ⟨hp, hv⟩ := hv
    refine x_callv (wr := []) (w' := fun (u : (Int32) × (Int32) × (Int32) × (Int32) × (Int32) × (Nat → Int32) × (Nat → Int32) × (Nat → Int32)) => [(e0, .inr (5, [.ref e01, .int xl, .int u.2.2.2.1, .int u.2.2.1, .int u.1, .int u.2.1, .int xr, .int xn])), aB G e01 400 bt, (t, .inr (6, [.int u.2.2.2.2.1, .int np, .int fu, .int fd, .int fi, .ref t1, .ref t2, .ref t3, .ref t4, .ref t5, .ref t6])), aI G t1 9 u.2.2.2.2.2.1, aI G t2 9 u.2.2.2.2.2.2.1, aI G t3 9 u.2.2.2.2.2.2.2, aI G t4 8 kd, aI G t5 8 nd, aI G t6 8 fw]) (x_runV (As := [.ref t]) (rest := []) (n := 1) (C := RX5) (ci := 5) ⟨hx, hb, hml, hown, hts⟩ (k_X5_readStone l G e0 e01 t t1 t2 t3 t4 t5 t6 _ bt xl xf xg xa2_2 xt2_3 xr xn ns np fu fd fi sz_ pt fh kd nd fw hp) gX5_readClause_X5_readStone rfl (by decide +kernel) ⟨Nat.le_trans (Nat.le_of_ble_eq_true rfl) hRf, Nat.le_trans (Nat.le_of_ble_eq_true rfl) hRl⟩ hKK hSS hS hA hP hD [0, 1, 2, 3, 4, 5, 6, 7, 8] (by decide) rfl rfl rfl 0 rfl rfl hl.1 rfl (Nat.le_of_ble_eq_true rfl) dX5_readClause_15) hP hD hS hA [0, 1, 2, 3, 4, 5, 6, 7, 8] [] [0, 1, 2, 3, 4, 5, 6, 7, 8] rfl rfl (by decide) (by decide) (by decide) (fun _ => rfl) (fun  u H locs hw hP hD hS => ?_)
    obtain ⟨xa2_40, xt2_41, xg2_42, xf2_43, ns2_44, sz2_45, pt2_46, fh2_47⟩ := u
    have hP : va_P G.1 vwCl [(e0, .inr (5, [.ref e01, .int xl, .int xf2_43, .int xg2_42, .int xa2_40, .int xt2_41, .int xr, .int xn])), aB G e01 400 bt, (t, .inr (6, [.int ns2_44, .int np, .int fu, .int fd, .int fi, .ref t1, .ref t2, .ref t3, .ref t4, .ref t5, .ref t6])), aI G t1 9 sz2_45, aI G t2 9 pt2_46, aI G t3 9 fh2_47, aI G t4 8 kd, aI G t5 8 nd, aI G t6 8 fw] H := hP
    have hD : va_D A [(e0, .inr (5, [.ref e01, .int xl, .int xf2_43, .int xg2_42, .int xa2_40, .int xt2_41, .int xr, .int xn])), aB G e01 400 bt, (t, .inr (6, [.int ns2_44, .int np, .int fu, .int fd, .int fi, .ref t1, .ref t2, .ref t3, .ref t4, .ref t5, .ref t6])), aI G t1 9 sz2_45, aI G t2 9 pt2_46, aI G t3 9 fh2_47, aI G t4 8 kd, aI G t5 8 nd, aI G t6 8 fw] := hD
    have hv := hv xa2_40 xt2_41 xg2_42 xf2_43 ns2_44 sz2_45 pt2_46 fh2_47 hw
    refine lv_goto (tgt := 77) hx hb dX5_readClause_18 (by decide) ?_
    exact x_vret (xa2_40, xt2_41, xg2_42, xf2_43, xr, xn, ns2_44, sz2_45, pt2_46, fh2_47, np, kd, nd, fw, fu, fd, fi) hQ hx hb hr hlocks hS dX5_readClause_77 hv hP hD
theorem k_X5_readClause (l : Launch) (G : Gt) (e0 e01 t t1 t2 t3 t4 t5 t6 : Nat) (sz : Nat) (bt : Nat → Int32) (xl : Int32) (xf : Int32) (xg : Int32) (xa : Int32) (xt : Int32) (xr : Int32) (xn : Int32) (ns : Int32) (np : Int32) (fu : Int32) (fd : Int32) (fi : Int32) (sz_ : Nat → Int32) (pt : Nat → Int32) (fh : Nat → Int32) (kd : Nat → Int32) (nd : Nat → Int32) (fw : Nat → Int32) (hp : True) : MetV l yX5_readClause wsX5_readClause 7 151 G [.ref e0, .ref t] [(e0, .inr (5, [.ref e01, .int xl, .int xf, .int xg, .int xa, .int xt, .int xr, .int xn])), aB G e01 400 bt, (t, .inr (6, [.int ns, .int np, .int fu, .int fd, .int fi, .ref t1, .ref t2, .ref t3, .ref t4, .ref t5, .ref t6])), aI G t1 9 sz_, aI G t2 9 pt, aI G t3 9 fh, aI G t4 8 kd, aI G t5 8 nd, aI G t6 8 fw] sz (fun (u : (Int32) × (Int32) × (Int32) × (Int32) × (Int32) × (Int32) × (Int32) × (Nat → Int32) × (Nat → Int32) × (Nat → Int32) × (Int32) × (Nat → Int32) × (Nat → Int32) × (Nat → Int32) × (Int32) × (Int32) × (Int32)) => True) (fun (u : (Int32) × (Int32) × (Int32) × (Int32) × (Int32) × (Int32) × (Int32) × (Nat → Int32) × (Nat → Int32) × (Nat → Int32) × (Int32) × (Nat → Int32) × (Nat → Int32) × (Nat → Int32) × (Int32) × (Int32) × (Int32)) => [(e0, .inr (5, [.ref e01, .int xl, .int u.2.2.2.1, .int u.2.2.1, .int u.1, .int u.2.1, .int u.2.2.2.2.1, .int u.2.2.2.2.2.1])), aB G e01 400 bt, (t, .inr (6, [.int u.2.2.2.2.2.2.1, .int u.2.2.2.2.2.2.2.2.2.2.1, .int u.2.2.2.2.2.2.2.2.2.2.2.2.2.2.1, .int u.2.2.2.2.2.2.2.2.2.2.2.2.2.2.2.1, .int u.2.2.2.2.2.2.2.2.2.2.2.2.2.2.2.2, .ref t1, .ref t2, .ref t3, .ref t4, .ref t5, .ref t6])), aI G t1 9 u.2.2.2.2.2.2.2.1, aI G t2 9 u.2.2.2.2.2.2.2.2.1, aI G t3 9 u.2.2.2.2.2.2.2.2.2.1, aI G t4 8 u.2.2.2.2.2.2.2.2.2.2.2.1, aI G t5 8 u.2.2.2.2.2.2.2.2.2.2.2.2.1, aI G t6 8 u.2.2.2.2.2.2.2.2.2.2.2.2.2.1]) :=
  c_X5_readClause l G e0 e01 t t1 t2 t3 t4 t5 t6 sz bt xl xf xg xa xt xr xn ns np fu fd fi sz_ pt fh kd nd fw (by
    sorry)

set_option maxHeartbeats 4000000 in
set_option maxRecDepth 100000 in
theorem c_X5_readInto (l : Launch) (G : Gt) (e0 e01 t t1 t2 t3 t4 t5 t6 : Nat) (sz : Nat) (bt : Nat → Int32) (xl : Int32) (xf : Int32) (xg : Int32) (xa : Int32) (xt : Int32) (xr : Int32) (xn : Int32) (ns : Int32) (np : Int32) (fu : Int32) (fd : Int32) (fi : Int32) (sz_ : Nat → Int32) (pt : Nat → Int32) (fh : Nat → Int32) (kd : Nat → Int32) (nd : Nat → Int32) (fw : Nat → Int32) (hv : ∃ (I31_25 : (Nat → Int32) → (Nat → Int32) → (Nat → Int32) → (Nat → Int32) → (Nat → Int32) → (Nat → Int32) → Int32 → Int32 → Int32 → Int32 → Int32 → Int32 → Int32 → Int32 → Int32 → Int32 → Int32 → Int32 → Prop) (μ31_26 : (Nat → Int32) → (Nat → Int32) → (Nat → Int32) → (Nat → Int32) → (Nat → Int32) → (Nat → Int32) → Int32 → Int32 → Int32 → Int32 → Int32 → Int32 → Int32 → Int32 → Int32 → Int32 → Int32 → Int32 → Nat), I31_25 sz_ pt fh kd nd fw (-1) 0 0 xt 0 0 0 0 3 1 0 0 ∧ (∀ (ft1_7 : (Nat → Int32)) (ft2_8 : (Nat → Int32)) (ft3_9 : (Nat → Int32)) (ft4_10 : (Nat → Int32)) (ft5_11 : (Nat → Int32)) (ft6_12 : (Nat → Int32)) (ge02_13 : Int32) (ge03_14 : Int32) (ge04_15 : Int32) (ge05_16 : Int32) (ge06_17 : Int32) (ge07_18 : Int32) (gt0_19 : Int32) (gt1_20 : Int32) (gt2_21 : Int32) (gt3_22 : Int32) (gt4_23 : Int32) (x2_24 : Int32), I31_25 ft1_7 ft2_8 ft3_9 ft4_10 ft5_11 ft6_12 ge02_13 ge03_14 ge04_15 ge05_16 ge06_17 ge07_18 gt0_19 gt1_20 gt2_21 gt3_22 gt4_23 x2_24 → (400 ≤ x2_24 → True) ∧ (¬ (400 ≤ x2_24) → (True) ∧ (∀ (r_30 : Int32) (xa2_31 : Int32), (True) → ((r_30 = 0 → True) ∧ (¬ (r_30 = 0) → (True) ∧ (∀ (xa2_34 : Int32) (xt2_35 : Int32) (xg2_36 : Int32) (xf2_37 : Int32) (xr2_38 : Int32) (xn2_39 : Int32) (ns2_40 : Int32) (sz2_41 : Nat → Int32) (pt2_42 : Nat → Int32) (fh2_43 : Nat → Int32) (np2_44 : Int32) (kd2_45 : Nat → Int32) (nd2_46 : Nat → Int32) (fw2_47 : Nat → Int32) (fu2_48 : Int32) (fd2_49 : Int32) (fi2_50 : Int32), (True) → (I31_25 sz2_41 pt2_42 fh2_43 kd2_45 nd2_46 fw2_47 xf2_37 xg2_36 xa2_34 xt2_35 xr2_38 xn2_39 ns2_40 np2_44 fu2_48 fd2_49 fi2_50 (x2_24 + 1) ∧ μ31_26 sz2_41 pt2_42 fh2_43 kd2_45 nd2_46 fw2_47 xf2_37 xg2_36 xa2_34 xt2_35 xr2_38 xn2_39 ns2_40 np2_44 fu2_48 fd2_49 fi2_50 (x2_24 + 1) < μ31_26 ft1_7 ft2_8 ft3_9 ft4_10 ft5_11 ft6_12 ge02_13 ge03_14 ge04_15 ge05_16 ge06_17 ge07_18 gt0_19 gt1_20 gt2_21 gt3_22 gt4_23 x2_24)))))))) : MetI l yX5_readInto wsX5_readInto 8 172 G [.ref e0, .ref t] [(e0, .inr (5, [.ref e01, .int xl, .int xf, .int xg, .int xa, .int xt, .int xr, .int xn])), aB G e01 400 bt, (t, .inr (6, [.int ns, .int np, .int fu, .int fd, .int fi, .ref t1, .ref t2, .ref t3, .ref t4, .ref t5, .ref t6])), aI G t1 9 sz_, aI G t2 9 pt, aI G t3 9 fh, aI G t4 8 kd, aI G t5 8 nd, aI G t6 8 fw] sz (fun (r : Int32) (u : (Int32) × (Int32) × (Int32) × (Int32) × (Int32) × (Int32) × (Int32) × (Int32) × (Nat → Int32) × (Nat → Int32) × (Nat → Int32) × (Int32) × (Nat → Int32) × (Nat → Int32) × (Nat → Int32) × (Int32) × (Int32) × (Int32)) => True) (fun (u : (Int32) × (Int32) × (Int32) × (Int32) × (Int32) × (Int32) × (Int32) × (Int32) × (Nat → Int32) × (Nat → Int32) × (Nat → Int32) × (Int32) × (Nat → Int32) × (Nat → Int32) × (Nat → Int32) × (Int32) × (Int32) × (Int32)) => [(e0, .inr (5, [.ref e01, .int u.1, .int u.2.2.2.2.1, .int u.2.2.2.1, .int u.2.1, .int u.2.2.1, .int u.2.2.2.2.2.1, .int u.2.2.2.2.2.2.1])), aB G e01 400 bt, (t, .inr (6, [.int u.2.2.2.2.2.2.2.1, .int u.2.2.2.2.2.2.2.2.2.2.2.1, .int u.2.2.2.2.2.2.2.2.2.2.2.2.2.2.2.1, .int u.2.2.2.2.2.2.2.2.2.2.2.2.2.2.2.2.1, .int u.2.2.2.2.2.2.2.2.2.2.2.2.2.2.2.2.2, .ref t1, .ref t2, .ref t3, .ref t4, .ref t5, .ref t6])), aI G t1 9 u.2.2.2.2.2.2.2.2.1, aI G t2 9 u.2.2.2.2.2.2.2.2.2.1, aI G t3 9 u.2.2.2.2.2.2.2.2.2.2.1, aI G t4 8 u.2.2.2.2.2.2.2.2.2.2.2.2.1, aI G t5 8 u.2.2.2.2.2.2.2.2.2.2.2.2.2.1, aI G t6 8 u.2.2.2.2.2.2.2.2.2.2.2.2.2.2.1]) := by
  refine x_startI (cc := cX5_readInto) (maxL := 3) (ret := (some .int)) (by decide) rfl (Nat.le_of_ble_eq_true rfl) ?_
  intro p e s m args below meth c A R Q ls hRf hRl hQ C hP hD hS hA hSS hl
  obtain ⟨hx, hb, hr, hml, hown, hts, hlocks, hKK⟩ := C
  have hown : s.vm.findClass RX5 = some m.cls := hown
  have hl : lv_has ls 3 [(0, .ref e0), (1, .ref t)] := hl
  have hinX5 : ∀ w ∈ u_ws RX5 TX5 8, w ∈ wsX5_readInto := by decide +kernel
  have kl15 := hts (.fieldLink RX5 15 "WarmStones$Text" "faultByte" "I") (by decide +kernel)
  have kl19 := hts (.fieldLink RX5 19 "WarmStones$Text" "length" "I") (by decide +kernel)
  have kl22 := hts (.fieldLink RX5 22 "WarmStones$Text" "at" "I") (by decide +kernel)
  have kl25 := hts (.fieldLink RX5 25 "WarmStones$Text" "fault" "I") (by decide +kernel)
  have kl28 := hts (.fieldLink RX5 28 "WarmStones$Text" "frostTold" "Z") (by decide +kernel)
  have kl32 := hts (.fieldLink RX5 32 "WarmStones$Text" "fineTold" "Z") (by decide +kernel)
  refine lv_aload_n hx hb dX5_readInto_0 rfl (lv_at hl 0 rfl) ?_
  refine lv_iconst (v := 0) hx hb dX5_readInto_1 (by decide) ?_
  refine va_put (D := G.1) (ci := 5) (v := .int 0) (ty := .int) (C := RX5) (T := TX5) (N := 8) hx hb hts hinX5 tyX5 tyX5_ok nmX5 hown hKK.1 hP hD hS 0 rfl rfl 4 (by decide) kl22 (fun _ h9 => h9) rfl (by decide +kernel) rfl rfl (Nat.le_of_ble_eq_true rfl) dX5_readInto_2 (fun H locs hP hD hS => ?_)
  have hP : va_P G.1 vwCl [(e0, .inr (5, [.ref e01, .int xl, .int xf, .int xg, .int 0, .int xt, .int xr, .int xn])), aB G e01 400 bt, (t, .inr (6, [.int ns, .int np, .int fu, .int fd, .int fi, .ref t1, .ref t2, .ref t3, .ref t4, .ref t5, .ref t6])), aI G t1 9 sz_, aI G t2 9 pt, aI G t3 9 fh, aI G t4 8 kd, aI G t5 8 nd, aI G t6 8 fw] H := hP
  have hD : va_D A [(e0, .inr (5, [.ref e01, .int xl, .int xf, .int xg, .int 0, .int xt, .int xr, .int xn])), aB G e01 400 bt, (t, .inr (6, [.int ns, .int np, .int fu, .int fd, .int fi, .ref t1, .ref t2, .ref t3, .ref t4, .ref t5, .ref t6])), aI G t1 9 sz_, aI G t2 9 pt, aI G t3 9 fh, aI G t4 8 kd, aI G t5 8 nd, aI G t6 8 fw] := hD
  refine lv_aload_n hx hb dX5_readInto_5 rfl (lv_at hl 0 rfl) ?_
  refine lv_iconst (v := 0) hx hb dX5_readInto_6 (by decide) ?_
  refine va_put (D := G.1) (ci := 5) (v := .int 0) (ty := .int) (C := RX5) (T := TX5) (N := 8) hx hb hts hinX5 tyX5 tyX5_ok nmX5 hown hKK.1 hP hD hS 0 rfl rfl 3 (by decide) kl25 (fun _ h9 => h9) rfl (by decide +kernel) rfl rfl (Nat.le_of_ble_eq_true rfl) dX5_readInto_7 (fun H locs hP hD hS => ?_)
  have hP : va_P G.1 vwCl [(e0, .inr (5, [.ref e01, .int xl, .int xf, .int 0, .int 0, .int xt, .int xr, .int xn])), aB G e01 400 bt, (t, .inr (6, [.int ns, .int np, .int fu, .int fd, .int fi, .ref t1, .ref t2, .ref t3, .ref t4, .ref t5, .ref t6])), aI G t1 9 sz_, aI G t2 9 pt, aI G t3 9 fh, aI G t4 8 kd, aI G t5 8 nd, aI G t6 8 fw] H := hP
  have hD : va_D A [(e0, .inr (5, [.ref e01, .int xl, .int xf, .int 0, .int 0, .int xt, .int xr, .int xn])), aB G e01 400 bt, (t, .inr (6, [.int ns, .int np, .int fu, .int fd, .int fi, .ref t1, .ref t2, .ref t3, .ref t4, .ref t5, .ref t6])), aI G t1 9 sz_, aI G t2 9 pt, aI G t3 9 fh, aI G t4 8 kd, aI G t5 8 nd, aI G t6 8 fw] := hD
  refine lv_aload_n hx hb dX5_readInto_10 rfl (lv_at hl 0 rfl) ?_
  refine lv_iconst (v := (-1)) hx hb dX5_readInto_11 (by decide) ?_
  refine va_put (D := G.1) (ci := 5) (v := .int (-1)) (ty := .int) (C := RX5) (T := TX5) (N := 8) hx hb hts hinX5 tyX5 tyX5_ok nmX5 hown hKK.1 hP hD hS 0 rfl rfl 2 (by decide) kl15 (fun _ h9 => h9) rfl (by decide +kernel) rfl rfl (Nat.le_of_ble_eq_true rfl) dX5_readInto_12 (fun H locs hP hD hS => ?_)
  have hP : va_P G.1 vwCl [(e0, .inr (5, [.ref e01, .int xl, .int (-1), .int 0, .int 0, .int xt, .int xr, .int xn])), aB G e01 400 bt, (t, .inr (6, [.int ns, .int np, .int fu, .int fd, .int fi, .ref t1, .ref t2, .ref t3, .ref t4, .ref t5, .ref t6])), aI G t1 9 sz_, aI G t2 9 pt, aI G t3 9 fh, aI G t4 8 kd, aI G t5 8 nd, aI G t6 8 fw] H := hP
  have hD : va_D A [(e0, .inr (5, [.ref e01, .int xl, .int (-1), .int 0, .int 0, .int xt, .int xr, .int xn])), aB G e01 400 bt, (t, .inr (6, [.int ns, .int np, .int fu, .int fd, .int fi, .ref t1, .ref t2, .ref t3, .ref t4, .ref t5, .ref t6])), aI G t1 9 sz_, aI G t2 9 pt, aI G t3 9 fh, aI G t4 8 kd, aI G t5 8 nd, aI G t6 8 fw] := hD
  refine lv_aload_n hx hb dX5_readInto_15 rfl (lv_at hl 0 rfl) ?_
  refine lv_iconst (v := 0) hx hb dX5_readInto_16 (by decide) ?_
  refine va_put (D := G.1) (ci := 5) (v := .int 0) (ty := .boolean) (C := RX5) (T := TX5) (N := 8) hx hb hts hinX5 tyX5 tyX5_ok nmX5 hown hKK.1 hP hD hS 0 rfl rfl 6 (by decide) kl28 (fun _ h9 => h9) rfl (by decide +kernel) rfl rfl (Nat.le_of_ble_eq_true rfl) dX5_readInto_17 (fun H locs hP hD hS => ?_)
  have hP : va_P G.1 vwCl [(e0, .inr (5, [.ref e01, .int xl, .int (-1), .int 0, .int 0, .int xt, .int 0, .int xn])), aB G e01 400 bt, (t, .inr (6, [.int ns, .int np, .int fu, .int fd, .int fi, .ref t1, .ref t2, .ref t3, .ref t4, .ref t5, .ref t6])), aI G t1 9 sz_, aI G t2 9 pt, aI G t3 9 fh, aI G t4 8 kd, aI G t5 8 nd, aI G t6 8 fw] H := hP
  have hD : va_D A [(e0, .inr (5, [.ref e01, .int xl, .int (-1), .int 0, .int 0, .int xt, .int 0, .int xn])), aB G e01 400 bt, (t, .inr (6, [.int ns, .int np, .int fu, .int fd, .int fi, .ref t1, .ref t2, .ref t3, .ref t4, .ref t5, .ref t6])), aI G t1 9 sz_, aI G t2 9 pt, aI G t3 9 fh, aI G t4 8 kd, aI G t5 8 nd, aI G t6 8 fw] := hD
  refine lv_aload_n hx hb dX5_readInto_20 rfl (lv_at hl 0 rfl) ?_
  refine lv_iconst (v := 0) hx hb dX5_readInto_21 (by decide) ?_
  refine va_put (D := G.1) (ci := 5) (v := .int 0) (ty := .boolean) (C := RX5) (T := TX5) (N := 8) hx hb hts hinX5 tyX5 tyX5_ok nmX5 hown hKK.1 hP hD hS 0 rfl rfl 7 (by decide) kl32 (fun _ h9 => h9) rfl (by decide +kernel) rfl rfl (Nat.le_of_ble_eq_true rfl) dX5_readInto_22 (fun H locs hP hD hS => ?_)
  have hP : va_P G.1 vwCl [(e0, .inr (5, [.ref e01, .int xl, .int (-1), .int 0, .int 0, .int xt, .int 0, .int 0])), aB G e01 400 bt, (t, .inr (6, [.int ns, .int np, .int fu, .int fd, .int fi, .ref t1, .ref t2, .ref t3, .ref t4, .ref t5, .ref t6])), aI G t1 9 sz_, aI G t2 9 pt, aI G t3 9 fh, aI G t4 8 kd, aI G t5 8 nd, aI G t6 8 fw] H := hP
  have hD : va_D A [(e0, .inr (5, [.ref e01, .int xl, .int (-1), .int 0, .int 0, .int xt, .int 0, .int 0])), aB G e01 400 bt, (t, .inr (6, [.int ns, .int np, .int fu, .int fd, .int fi, .ref t1, .ref t2, .ref t3, .ref t4, .ref t5, .ref t6])), aI G t1 9 sz_, aI G t2 9 pt, aI G t3 9 fh, aI G t4 8 kd, aI G t5 8 nd, aI G t6 8 fw] := hD
  refine lv_aload_n hx hb dX5_readInto_25 rfl (lv_at hl 1 rfl) ?_
  refine x_callv (wr := [(e0, .inr (5, [.ref e01, .int xl, .int (-1), .int 0, .int 0, .int xt, .int 0, .int 0])), aB G e01 400 bt]) (w' := fun (u : (Int32) × (Int32) × (Int32) × (Int32) × (Int32)) => [(e0, .inr (5, [.ref e01, .int xl, .int (-1), .int 0, .int 0, .int xt, .int 0, .int 0])), aB G e01 400 bt, (t, .inr (6, [.int u.1, .int u.2.1, .int u.2.2.1, .int u.2.2.2.1, .int u.2.2.2.2, .ref t1, .ref t2, .ref t3, .ref t4, .ref t5, .ref t6])), aI G t1 9 sz_, aI G t2 9 pt, aI G t3 9 fh, aI G t4 8 kd, aI G t5 8 nd, aI G t6 8 fw]) (x_runV (As := []) (rest := []) (n := 0) (C := RX6) (ci := 6) ⟨hx, hb, hml, hown, hts⟩ (k_X6_clear l G t t1 t2 t3 t4 t5 t6 _ ns np fu fd fi sz_ pt fh kd nd fw) gX5_readInto_X6_clear rfl (by decide +kernel) ⟨Nat.le_trans (Nat.le_of_ble_eq_true rfl) hRf, Nat.le_trans (Nat.le_of_ble_eq_true rfl) hRl⟩ hKK hSS hS hA hP hD [2, 3, 4, 5, 6, 7, 8] (by decide) rfl rfl rfl 2 rfl rfl hl.1 rfl (Nat.le_of_ble_eq_true rfl) dX5_readInto_26) hP hD hS hA [2, 3, 4, 5, 6, 7, 8] [0, 1] [0, 1, 2, 3, 4, 5, 6, 7, 8] rfl rfl (by decide) (by decide) (by decide) (fun _ => rfl) (fun  u H locs hw hP hD hS => ?_)
  obtain ⟨ns2_2, np2_3, fu2_4, fd2_5, fi2_6⟩ := u
  obtain ⟨hw0, hw1, hw2, hw3, hw4⟩ := hw
  replace hw0 := hw0.symm; subst hw0
  replace hw1 := hw1.symm; subst hw1
  replace hw2 := hw2.symm; subst hw2
  replace hw3 := hw3.symm; subst hw3
  replace hw4 := hw4.symm; subst hw4
  have hP : va_P G.1 vwCl [(e0, .inr (5, [.ref e01, .int xl, .int (-1), .int 0, .int 0, .int xt, .int 0, .int 0])), aB G e01 400 bt, (t, .inr (6, [.int 0, .int 0, .int 3, .int 1, .int 0, .ref t1, .ref t2, .ref t3, .ref t4, .ref t5, .ref t6])), aI G t1 9 sz_, aI G t2 9 pt, aI G t3 9 fh, aI G t4 8 kd, aI G t5 8 nd, aI G t6 8 fw] H := hP
  have hD : va_D A [(e0, .inr (5, [.ref e01, .int xl, .int (-1), .int 0, .int 0, .int xt, .int 0, .int 0])), aB G e01 400 bt, (t, .inr (6, [.int 0, .int 0, .int 3, .int 1, .int 0, .ref t1, .ref t2, .ref t3, .ref t4, .ref t5, .ref t6])), aI G t1 9 sz_, aI G t2 9 pt, aI G t3 9 fh, aI G t4 8 kd, aI G t5 8 nd, aI G t6 8 fw] := hD
  refine lv_iconst (v := 0) hx hb dX5_readInto_29 (by decide) ?_
  refine lv_istore_n (lv' := [(2, .int 0), (0, .ref e0), (1, .ref t)]) hx hb dX5_readInto_30 rfl hl (by decide) rfl (fun ls hl => ?_)
  obtain ⟨I31_25, μ31_26, hi0, hs_51⟩ := hv
  have Lm_53 : ∀ (n_52 : Nat) (ft1_7 : (Nat → Int32)) (ft2_8 : (Nat → Int32)) (ft3_9 : (Nat → Int32)) (ft4_10 : (Nat → Int32)) (ft5_11 : (Nat → Int32)) (ft6_12 : (Nat → Int32)) (ge02_13 : Int32) (ge03_14 : Int32) (ge04_15 : Int32) (ge05_16 : Int32) (ge06_17 : Int32) (ge07_18 : Int32) (gt0_19 : Int32) (gt1_20 : Int32) (gt2_21 : Int32) (gt3_22 : Int32) (gt4_23 : Int32) (x2_24 : Int32) (H : Heap) (locs : List Loc) (ls : Array Slot), μ31_26 ft1_7 ft2_8 ft3_9 ft4_10 ft5_11 ft6_12 ge02_13 ge03_14 ge04_15 ge05_16 ge06_17 ge07_18 gt0_19 gt1_20 gt2_21 gt3_22 gt4_23 x2_24 < n_52 → I31_25 ft1_7 ft2_8 ft3_9 ft4_10 ft5_11 ft6_12 ge02_13 ge03_14 ge04_15 ge05_16 ge06_17 ge07_18 gt0_19 gt1_20 gt2_21 gt3_22 gt4_23 x2_24 → va_P G.1 vwCl [(e0, .inr (5, [.ref e01, .int xl, .int ge02_13, .int ge03_14, .int ge04_15, .int ge05_16, .int ge06_17, .int ge07_18])), aB G e01 400 bt, (t, .inr (6, [.int gt0_19, .int gt1_20, .int gt2_21, .int gt3_22, .int gt4_23, .ref t1, .ref t2, .ref t3, .ref t4, .ref t5, .ref t6])), aI G t1 9 ft1_7, aI G t2 9 ft2_8, aI G t3 9 ft3_9, aI G t4 8 ft4_10, aI G t5 8 ft5_11, aI G t6 8 ft6_12] H → va_D A [(e0, .inr (5, [.ref e01, .int xl, .int ge02_13, .int ge03_14, .int ge04_15, .int ge05_16, .int ge06_17, .int ge07_18])), aB G e01 400 bt, (t, .inr (6, [.int gt0_19, .int gt1_20, .int gt2_21, .int gt3_22, .int gt4_23, .ref t1, .ref t2, .ref t3, .ref t4, .ref t5, .ref t6])), aI G t1 9 ft1_7, aI G t2 9 ft2_8, aI G t3 9 ft3_9, aI G t4 8 ft4_10, aI G t5 8 ft5_11, aI G t6 8 ft6_12] → va_S A s.heap H locs → lv_has ls 3 [(2, .int x2_24), (0, .ref e0), (1, .ref t)] → W p l e R s m args below meth c H locs 0 0 Q (F0 m 31 ls []) := by
    intro n_52
    induction n_52 with
    | zero => intro ft1_7 ft2_8 ft3_9 ft4_10 ft5_11 ft6_12 ge02_13 ge03_14 ge04_15 ge05_16 ge06_17 ge07_18 gt0_19 gt1_20 gt2_21 gt3_22 gt4_23 x2_24 H locs ls hm; exact absurd hm (Nat.not_lt_zero _)
    | succ n_52 ih_27 =>
      intro ft1_7 ft2_8 ft3_9 ft4_10 ft5_11 ft6_12 ge02_13 ge03_14 ge04_15 ge05_16 ge06_17 ge07_18 gt0_19 gt1_20 gt2_21 gt3_22 gt4_23 x2_24 H locs ls hI_28 hi hP hD hS hl
      have hv := hs_51 ft1_7 ft2_8 ft3_9 ft4_10 ft5_11 ft6_12 ge02_13 ge03_14 ge04_15 ge05_16 ge06_17 ge07_18 gt0_19 gt1_20 gt2_21 gt3_22 gt4_23 x2_24 hi
      refine lv_iload_n hx hb dX5_readInto_31 rfl (lv_at hl 0 rfl) ?_
      refine lv_sipush (v := 400) hx hb dX5_readInto_32 (by decide) ?_
      refine lv_icmp_ge (tgt := 56) hx hb dX5_readInto_35 (by decide) (fun hc_29 => ?_) (fun hc_29 => ?_)
      · have hv := hv.1 hc_29
        refine lv_aload_n hx hb dX5_readInto_56 rfl (lv_at hl 1 rfl) ?_
        refine lv_iconst (v := 0) hx hb dX5_readInto_57 (by decide) ?_
        refine va_put (D := G.1) (ci := 5) (v := .int 0) (ty := .int) (C := RX5) (T := TX5) (N := 8) hx hb hts hinX5 tyX5 tyX5_ok nmX5 hown hKK.1 hP hD hS 0 rfl rfl 1 (by decide) kl19 (fun _ h9 => h9) rfl (by decide +kernel) rfl rfl (Nat.le_of_ble_eq_true rfl) dX5_readInto_58 (fun H locs hP hD hS => ?_)
        have hP : va_P G.1 vwCl [(e0, .inr (5, [.ref e01, .int 0, .int ge02_13, .int ge03_14, .int ge04_15, .int ge05_16, .int ge06_17, .int ge07_18])), aB G e01 400 bt, (t, .inr (6, [.int gt0_19, .int gt1_20, .int gt2_21, .int gt3_22, .int gt4_23, .ref t1, .ref t2, .ref t3, .ref t4, .ref t5, .ref t6])), aI G t1 9 ft1_7, aI G t2 9 ft2_8, aI G t3 9 ft3_9, aI G t4 8 ft4_10, aI G t5 8 ft5_11, aI G t6 8 ft6_12] H := hP
        have hD : va_D A [(e0, .inr (5, [.ref e01, .int 0, .int ge02_13, .int ge03_14, .int ge04_15, .int ge05_16, .int ge06_17, .int ge07_18])), aB G e01 400 bt, (t, .inr (6, [.int gt0_19, .int gt1_20, .int gt2_21, .int gt3_22, .int gt4_23, .ref t1, .ref t2, .ref t3, .ref t4, .ref t5, .ref t6])), aI G t1 9 ft1_7, aI G t2 9 ft2_8, aI G t3 9 ft3_9, aI G t4 8 ft4_10, aI G t5 8 ft5_11, aI G t6 8 ft6_12] := hD
        refine lv_aload_n hx hb dX5_readInto_61 rfl (lv_at hl 1 rfl) ?_
        refine va_get (D := G.1) (ci := 5) (v := .int ge03_14) (C := RX5) (T := TX5) (N := 8) hx hb hts hinX5 hown hKK.1 hP 0 rfl rfl 3 (by decide) kl25 (fun _ h9 => h9) rfl dX5_readInto_62 ?_
        exact x_iret (v := ge03_14) (0, ge04_15, ge05_16, ge03_14, ge02_13, ge06_17, ge07_18, gt0_19, ft1_7, ft2_8, ft3_9, gt1_20, ft4_10, ft5_11, ft6_12, gt2_21, gt3_22, gt4_23) hQ hx hb hr hlocks hS dX5_readInto_65 hv hP hD
      · have hv := hv.2 hc_29
        refine lv_aload_n hx hb dX5_readInto_38 rfl (lv_at hl 1 rfl) ?_
        obtain ⟨hp, hv⟩ := hv
        refine x_calli (wr := [(t, .inr (6, [.int gt0_19, .int gt1_20, .int gt2_21, .int gt3_22, .int gt4_23, .ref t1, .ref t2, .ref t3, .ref t4, .ref t5, .ref t6])), aI G t1 9 ft1_7, aI G t2 9 ft2_8, aI G t3 9 ft3_9, aI G t4 8 ft4_10, aI G t5 8 ft5_11, aI G t6 8 ft6_12]) (w' := fun (u : (Int32)) => [(e0, .inr (5, [.ref e01, .int xl, .int ge02_13, .int ge03_14, .int u, .int ge05_16, .int ge06_17, .int ge07_18])), aB G e01 400 bt, (t, .inr (6, [.int gt0_19, .int gt1_20, .int gt2_21, .int gt3_22, .int gt4_23, .ref t1, .ref t2, .ref t3, .ref t4, .ref t5, .ref t6])), aI G t1 9 ft1_7, aI G t2 9 ft2_8, aI G t3 9 ft3_9, aI G t4 8 ft4_10, aI G t5 8 ft5_11, aI G t6 8 ft6_12]) (x_runV (As := []) (rest := []) (n := 0) (C := RX5) (ci := 5) ⟨hx, hb, hml, hown, hts⟩ (k_X5_hasMore l G e0 e01 _ bt xl ge02_13 ge03_14 ge04_15 ge05_16 ge06_17 ge07_18 hp) gX5_readInto_X5_hasMore rfl (by decide +kernel) ⟨Nat.le_trans (Nat.le_of_ble_eq_true rfl) hRf, Nat.le_trans (Nat.le_of_ble_eq_true rfl) hRl⟩ hKK hSS hS hA hP hD [0, 1] (by decide) rfl rfl rfl 0 rfl rfl hl.1 rfl (Nat.le_of_ble_eq_true rfl) dX5_readInto_39) hP hD hS hA [0, 1] [2, 3, 4, 5, 6, 7, 8] [7, 8, 0, 1, 2, 3, 4, 5, 6] rfl rfl (by decide) (by decide) (by decide) (fun _ => rfl) (fun r_30 u H locs hw hP hD hS => ?_)
        obtain ⟨xa2_31, rfl⟩ : ∃ z, z = u := ⟨_, rfl⟩
        have hP : va_P G.1 vwCl [(e0, .inr (5, [.ref e01, .int xl, .int ge02_13, .int ge03_14, .int xa2_31, .int ge05_16, .int ge06_17, .int ge07_18])), aB G e01 400 bt, (t, .inr (6, [.int gt0_19, .int gt1_20, .int gt2_21, .int gt3_22, .int gt4_23, .ref t1, .ref t2, .ref t3, .ref t4, .ref t5, .ref t6])), aI G t1 9 ft1_7, aI G t2 9 ft2_8, aI G t3 9 ft3_9, aI G t4 8 ft4_10, aI G t5 8 ft5_11, aI G t6 8 ft6_12] H := hP
        have hD : va_D A [(e0, .inr (5, [.ref e01, .int xl, .int ge02_13, .int ge03_14, .int xa2_31, .int ge05_16, .int ge06_17, .int ge07_18])), aB G e01 400 bt, (t, .inr (6, [.int gt0_19, .int gt1_20, .int gt2_21, .int gt3_22, .int gt4_23, .ref t1, .ref t2, .ref t3, .ref t4, .ref t5, .ref t6])), aI G t1 9 ft1_7, aI G t2 9 ft2_8, aI G t3 9 ft3_9, aI G t4 8 ft4_10, aI G t5 8 ft5_11, aI G t6 8 ft6_12] := hD
        have hv := hv r_30 xa2_31 hw
        refine lv_if_eq (tgt := 56) hx hb dX5_readInto_42 (by decide) (fun hc_32 => ?_) (fun hc_32 => ?_)
        · have hv := hv.1 hc_32
          refine lv_aload_n hx hb dX5_readInto_56 rfl (lv_at hl 1 rfl) ?_
          refine lv_iconst (v := 0) hx hb dX5_readInto_57 (by decide) ?_
          refine va_put (D := G.1) (ci := 5) (v := .int 0) (ty := .int) (C := RX5) (T := TX5) (N := 8) hx hb hts hinX5 tyX5 tyX5_ok nmX5 hown hKK.1 hP hD hS 0 rfl rfl 1 (by decide) kl19 (fun _ h9 => h9) rfl (by decide +kernel) rfl rfl (Nat.le_of_ble_eq_true rfl) dX5_readInto_58 (fun H locs hP hD hS => ?_)
          have hP : va_P G.1 vwCl [(e0, .inr (5, [.ref e01, .int 0, .int ge02_13, .int ge03_14, .int xa2_31, .int ge05_16, .int ge06_17, .int ge07_18])), aB G e01 400 bt, (t, .inr (6, [.int gt0_19, .int gt1_20, .int gt2_21, .int gt3_22, .int gt4_23, .ref t1, .ref t2, .ref t3, .ref t4, .ref t5, .ref t6])), aI G t1 9 ft1_7, aI G t2 9 ft2_8, aI G t3 9 ft3_9, aI G t4 8 ft4_10, aI G t5 8 ft5_11, aI G t6 8 ft6_12] H := hP
          have hD : va_D A [(e0, .inr (5, [.ref e01, .int 0, .int ge02_13, .int ge03_14, .int xa2_31, .int ge05_16, .int ge06_17, .int ge07_18])), aB G e01 400 bt, (t, .inr (6, [.int gt0_19, .int gt1_20, .int gt2_21, .int gt3_22, .int gt4_23, .ref t1, .ref t2, .ref t3, .ref t4, .ref t5, .ref t6])), aI G t1 9 ft1_7, aI G t2 9 ft2_8, aI G t3 9 ft3_9, aI G t4 8 ft4_10, aI G t5 8 ft5_11, aI G t6 8 ft6_12] := hD
          refine lv_aload_n hx hb dX5_readInto_61 rfl (lv_at hl 1 rfl) ?_
          refine va_get (D := G.1) (ci := 5) (v := .int ge03_14) (C := RX5) (T := TX5) (N := 8) hx hb hts hinX5 hown hKK.1 hP 0 rfl rfl 3 (by decide) kl25 (fun _ h9 => h9) rfl dX5_readInto_62 ?_
          exact x_iret (v := ge03_14) (0, xa2_31, ge05_16, ge03_14, ge02_13, ge06_17, ge07_18, gt0_19, ft1_7, ft2_8, ft3_9, gt1_20, ft4_10, ft5_11, ft6_12, gt2_21, gt3_22, gt4_23) hQ hx hb hr hlocks hS dX5_readInto_65 hv hP hD
        · have hv := hv.2 hc_32
          refine lv_aload_n hx hb dX5_readInto_45 rfl (lv_at hl 1 rfl) ?_
          refine lv_aload_n hx hb dX5_readInto_46 rfl (lv_at hl 2 rfl) ?_
          obtain ⟨hp, hv⟩ := hv
          refine x_callv (wr := []) (w' := fun (u : (Int32) × (Int32) × (Int32) × (Int32) × (Int32) × (Int32) × (Int32) × (Nat → Int32) × (Nat → Int32) × (Nat → Int32) × (Int32) × (Nat → Int32) × (Nat → Int32) × (Nat → Int32) × (Int32) × (Int32) × (Int32)) => [(e0, .inr (5, [.ref e01, .int xl, .int u.2.2.2.1, .int u.2.2.1, .int u.1, .int u.2.1, .int u.2.2.2.2.1, .int u.2.2.2.2.2.1])), aB G e01 400 bt, (t, .inr (6, [.int u.2.2.2.2.2.2.1, .int u.2.2.2.2.2.2.2.2.2.2.1, .int u.2.2.2.2.2.2.2.2.2.2.2.2.2.2.1, .int u.2.2.2.2.2.2.2.2.2.2.2.2.2.2.2.1, .int u.2.2.2.2.2.2.2.2.2.2.2.2.2.2.2.2, .ref t1, .ref t2, .ref t3, .ref t4, .ref t5, .ref t6])), aI G t1 9 u.2.2.2.2.2.2.2.1, aI G t2 9 u.2.2.2.2.2.2.2.2.1, aI G t3 9 u.2.2.2.2.2.2.2.2.2.1, aI G t4 8 u.2.2.2.2.2.2.2.2.2.2.2.1, aI G t5 8 u.2.2.2.2.2.2.2.2.2.2.2.2.1, aI G t6 8 u.2.2.2.2.2.2.2.2.2.2.2.2.2.1]) (x_runV (As := [.ref t]) (rest := []) (n := 1) (C := RX5) (ci := 5) ⟨hx, hb, hml, hown, hts⟩ (k_X5_readClause l G e0 e01 t t1 t2 t3 t4 t5 t6 _ bt xl ge02_13 ge03_14 xa2_31 ge05_16 ge06_17 ge07_18 gt0_19 gt1_20 gt2_21 gt3_22 gt4_23 ft1_7 ft2_8 ft3_9 ft4_10 ft5_11 ft6_12 hp) gX5_readInto_X5_readClause rfl (by decide +kernel) ⟨Nat.le_trans (Nat.le_of_ble_eq_true rfl) hRf, Nat.le_trans (Nat.le_of_ble_eq_true rfl) hRl⟩ hKK hSS hS hA hP hD [0, 1, 2, 3, 4, 5, 6, 7, 8] (by decide) rfl rfl rfl 0 rfl rfl hl.1 rfl (Nat.le_of_ble_eq_true rfl) dX5_readInto_47) hP hD hS hA [0, 1, 2, 3, 4, 5, 6, 7, 8] [] [0, 1, 2, 3, 4, 5, 6, 7, 8] rfl rfl (by decide) (by decide) (by decide) (fun _ => rfl) (fun  u H locs hw hP hD hS => ?_)
          obtain ⟨xa2_34, xt2_35, xg2_36, xf2_37, xr2_38, xn2_39, ns2_40, sz2_41, pt2_42, fh2_43, np2_44, kd2_45, nd2_46, fw2_47, fu2_48, fd2_49, fi2_50⟩ := u
          have hP : va_P G.1 vwCl [(e0, .inr (5, [.ref e01, .int xl, .int xf2_37, .int xg2_36, .int xa2_34, .int xt2_35, .int xr2_38, .int xn2_39])), aB G e01 400 bt, (t, .inr (6, [.int ns2_40, .int np2_44, .int fu2_48, .int fd2_49, .int fi2_50, .ref t1, .ref t2, .ref t3, .ref t4, .ref t5, .ref t6])), aI G t1 9 sz2_41, aI G t2 9 pt2_42, aI G t3 9 fh2_43, aI G t4 8 kd2_45, aI G t5 8 nd2_46, aI G t6 8 fw2_47] H := hP
          have hD : va_D A [(e0, .inr (5, [.ref e01, .int xl, .int xf2_37, .int xg2_36, .int xa2_34, .int xt2_35, .int xr2_38, .int xn2_39])), aB G e01 400 bt, (t, .inr (6, [.int ns2_40, .int np2_44, .int fu2_48, .int fd2_49, .int fi2_50, .ref t1, .ref t2, .ref t3, .ref t4, .ref t5, .ref t6])), aI G t1 9 sz2_41, aI G t2 9 pt2_42, aI G t3 9 fh2_43, aI G t4 8 kd2_45, aI G t5 8 nd2_46, aI G t6 8 fw2_47] := hD
          have hv := hv xa2_34 xt2_35 xg2_36 xf2_37 xr2_38 xn2_39 ns2_40 sz2_41 pt2_42 fh2_43 np2_44 kd2_45 nd2_46 fw2_47 fu2_48 fd2_49 fi2_50 hw
          refine lv_iinc (v := (x2_24 + 1)) (lv' := [(2, .int (x2_24 + 1)), (0, .ref e0), (1, .ref t)]) hx hb dX5_readInto_50 hl (k := 0) rfl rfl (by decide) rfl (fun ls hl => ?_)
          refine lv_goto (tgt := 31) hx hb dX5_readInto_53 (by decide) ?_
          exact ih_27 _ _ _ _ _ _ _ _ _ _ _ _ _ _ _ _ _ _ _ _ _ (Nat.lt_of_lt_of_le hv.2 (Nat.le_of_lt_succ hI_28)) hv.1 hP hD hS hl
  exact Lm_53 _ _ _ _ _ _ _ _ _ _ _ _ _ _ _ _ _ _ _ _ _ _ (Nat.lt_succ_self _) hi0 hP hD hS hl
theorem k_X5_readInto (l : Launch) (G : Gt) (e0 e01 t t1 t2 t3 t4 t5 t6 : Nat) (sz : Nat) (bt : Nat → Int32) (xl : Int32) (xf : Int32) (xg : Int32) (xa : Int32) (xt : Int32) (xr : Int32) (xn : Int32) (ns : Int32) (np : Int32) (fu : Int32) (fd : Int32) (fi : Int32) (sz_ : Nat → Int32) (pt : Nat → Int32) (fh : Nat → Int32) (kd : Nat → Int32) (nd : Nat → Int32) (fw : Nat → Int32) (hp : True) : MetI l yX5_readInto wsX5_readInto 8 172 G [.ref e0, .ref t] [(e0, .inr (5, [.ref e01, .int xl, .int xf, .int xg, .int xa, .int xt, .int xr, .int xn])), aB G e01 400 bt, (t, .inr (6, [.int ns, .int np, .int fu, .int fd, .int fi, .ref t1, .ref t2, .ref t3, .ref t4, .ref t5, .ref t6])), aI G t1 9 sz_, aI G t2 9 pt, aI G t3 9 fh, aI G t4 8 kd, aI G t5 8 nd, aI G t6 8 fw] sz (fun (r : Int32) (u : (Int32) × (Int32) × (Int32) × (Int32) × (Int32) × (Int32) × (Int32) × (Int32) × (Nat → Int32) × (Nat → Int32) × (Nat → Int32) × (Int32) × (Nat → Int32) × (Nat → Int32) × (Nat → Int32) × (Int32) × (Int32) × (Int32)) => True) (fun (u : (Int32) × (Int32) × (Int32) × (Int32) × (Int32) × (Int32) × (Int32) × (Int32) × (Nat → Int32) × (Nat → Int32) × (Nat → Int32) × (Int32) × (Nat → Int32) × (Nat → Int32) × (Nat → Int32) × (Int32) × (Int32) × (Int32)) => [(e0, .inr (5, [.ref e01, .int u.1, .int u.2.2.2.2.1, .int u.2.2.2.1, .int u.2.1, .int u.2.2.1, .int u.2.2.2.2.2.1, .int u.2.2.2.2.2.2.1])), aB G e01 400 bt, (t, .inr (6, [.int u.2.2.2.2.2.2.2.1, .int u.2.2.2.2.2.2.2.2.2.2.2.1, .int u.2.2.2.2.2.2.2.2.2.2.2.2.2.2.2.1, .int u.2.2.2.2.2.2.2.2.2.2.2.2.2.2.2.2.1, .int u.2.2.2.2.2.2.2.2.2.2.2.2.2.2.2.2.2, .ref t1, .ref t2, .ref t3, .ref t4, .ref t5, .ref t6])), aI G t1 9 u.2.2.2.2.2.2.2.2.1, aI G t2 9 u.2.2.2.2.2.2.2.2.2.1, aI G t3 9 u.2.2.2.2.2.2.2.2.2.2.1, aI G t4 8 u.2.2.2.2.2.2.2.2.2.2.2.2.1, aI G t5 8 u.2.2.2.2.2.2.2.2.2.2.2.2.2.1, aI G t6 8 u.2.2.2.2.2.2.2.2.2.2.2.2.2.2.1]) :=
  c_X5_readInto l G e0 e01 t t1 t2 t3 t4 t5 t6 sz bt xl xf xg xa xt xr xn ns np fu fd fi sz_ pt fh kd nd fw (by
    sorry)
