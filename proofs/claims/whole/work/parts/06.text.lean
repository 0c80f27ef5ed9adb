set_option maxHeartbeats 4000000 in
set_option maxRecDepth 100000 in
theorem c_J3_checkIndex_8e157 (l : Launch) (G : Gt) (sz : Nat) (x : Int32) (y : Int32) (oo : Option Nat) (hv : (x < 0 → False) ∧ (¬ (x < 0) → (x < y → (x : Int32) = x) ∧ (¬ (x < y) → False))) : MetI l yJ3_checkIndex_8e157 wsJ3_checkIndex_8e157 0 0 G [.int x, .int y, va_rf oo] [] sz (fun (r : Int32) (_ : Unit) => (r : Int32) = x) (fun (_ : Unit) => []) := by
  refine x_startI (cc := cJ3_checkIndex_8e157) (maxL := 3) (ret := (some .int)) (by decide) rfl (by cases oo <;> exact Nat.le_of_ble_eq_true rfl) ?_
  intro p e s m args below meth c A R Q ls hRf hRl hQ C hP hD hS hA hSS hl
  obtain ⟨hx, hb, hr, hml, hown, hts, hlocks, hKK⟩ := C
  have hown : s.vm.findClass RJ3 = some m.cls := hown
  have hl : lv_has ls 3 [(0, .int x), (1, .int y)] := by cases oo <;> exact lv_sub hl [0, 1] rfl
  refine lv_iload_n hx hb dJ3_checkIndex_8e157_0 rfl (lv_at hl 0 rfl) ?_
  refine lv_if_lt (tgt := 9) hx hb dJ3_checkIndex_8e157_1 (by decide) (fun hc_1 => ?_) (fun hc_1 => ?_)
  · have hv := hv.1 hc_1
    exact hv.elim
  · have hv := hv.2 hc_1
    refine lv_iload_n hx hb dJ3_checkIndex_8e157_4 rfl (lv_at hl 0 rfl) ?_
    refine lv_iload_n hx hb dJ3_checkIndex_8e157_5 rfl (lv_at hl 1 rfl) ?_
    refine lv_icmp_lt (tgt := 16) hx hb dJ3_checkIndex_8e157_6 (by decide) (fun hc_2 => ?_) (fun hc_2 => ?_)
    · have hv := hv.1 hc_2
      refine lv_iload_n hx hb dJ3_checkIndex_8e157_16 rfl (lv_at hl 0 rfl) ?_
      exact x_iret (v := x) () hQ hx hb hr hlocks hS dJ3_checkIndex_8e157_17 hv hP hD
    · have hv := hv.2 hc_2
      exact hv.elim
theorem v_J3_checkIndex_8e157 (l : Launch) (G : Gt) (sz : Nat) (x : Int32) (y : Int32) (oo : Option Nat) (hp : ¬ x < 0 ∧ x < y) : (x < 0 → False) ∧ (¬ (x < 0) → (x < y → (x : Int32) = x) ∧ (¬ (x < y) → False)) := by
  simp_all
theorem k_J3_checkIndex_8e157 (l : Launch) (G : Gt) (sz : Nat) (x : Int32) (y : Int32) (oo : Option Nat) (hp : ¬ x < 0 ∧ x < y) : MetI l yJ3_checkIndex_8e157 wsJ3_checkIndex_8e157 0 0 G [.int x, .int y, va_rf oo] [] sz (fun (r : Int32) (_ : Unit) => (r : Int32) = x) (fun (_ : Unit) => []) :=
  c_J3_checkIndex_8e157 l G  sz x y oo (v_J3_checkIndex_8e157 l G  sz x y oo hp)

set_option maxHeartbeats 4000000 in
set_option maxRecDepth 100000 in
theorem c_J0_checkIndex_df160 (l : Launch) (G : Gt) (sz : Nat) (x : Int32) (y : Int32) (hv : (¬ x < 0 ∧ x < y) ∧ (True)) : MetV l yJ0_checkIndex_df160 wsJ0_checkIndex_df160 1 22 G [.int x, .int y] [] sz (fun (_ : Unit) => True) (fun (_ : Unit) => []) := by
  refine x_startV (cc := cJ0_checkIndex_df160) (maxL := 2) (ret := none) (by decide) rfl (Nat.le_of_ble_eq_true rfl) ?_
  intro p e s m args below meth c A R Q ls hRf hRl hQ C hP hD hS hA hSS hl
  obtain ⟨hx, hb, hr, hml, hown, hts, hlocks, hKK⟩ := C
  have hown : s.vm.findClass RJ0 = some m.cls := hown
  have hl : lv_has ls 2 [(0, .int x), (1, .int y)] := hl
  have kl1053 := hts (.fieldLink RJ0 1053 "jdk/internal/util/Preconditions" "SIOOBE_FORMATTER" "Ljava/util/function/BiFunction;") (by decide +kernel)
  refine lv_iload_n hx hb dJ0_checkIndex_df160_0 rfl (lv_at hl 0 rfl) ?_
  refine lv_iload_n hx hb dJ0_checkIndex_df160_1 rfl (lv_at hl 1 rfl) ?_
  obtain ⟨oq, hz⟩ : ∃ o : Option Nat, va_Z "jdk/internal/util/Preconditions" "SIOOBE_FORMATTER" "Ljava/util/function/BiFunction;" (va_rf o) A s s.heap := hSS.2.2.2.elim (fun h => ⟨none, h⟩) (fun ⟨t, h⟩ => ⟨some t, h⟩)
  refine va_gets hx hb hz hS hown kl1053 (fun _ h9 => h9) dJ0_checkIndex_df160_2 ?_
  obtain ⟨hp, hv⟩ := hv
  refine x_calliR (x_runS (As := [.int x, .int y, va_rf oq]) (rest := []) (n := 3) ⟨hx, hb, hml, hown, hts⟩ (k_J3_checkIndex_8e157 l G  _ x y oq hp) gJ0_checkIndex_df160_J3_checkIndex_8e157 rfl (by decide +kernel) ⟨Nat.le_trans (Nat.le_of_ble_eq_true rfl) hRf, Nat.le_trans (Nat.le_of_ble_eq_true rfl) hRl⟩ hKK hSS hS hA hP hD [] (by decide) rfl rfl hl.1 rfl (Nat.le_of_ble_eq_true rfl) dJ0_checkIndex_df160_5) hP hD hS hA [] rfl (fun r_1 _ H locs hw hP hS => ?_)
  replace hw := hw.symm; subst hw
  refine lv_pop hx hb dJ0_checkIndex_df160_8 rfl ?_
  exact x_vret () hQ hx hb hr hlocks hS dJ0_checkIndex_df160_9 hv hP hD
theorem v_J0_checkIndex_df160 (l : Launch) (G : Gt) (sz : Nat) (x : Int32) (y : Int32) (hp : ¬ x < 0 ∧ x < y) : (¬ x < 0 ∧ x < y) ∧ (True) := by
  exact ⟨hp, trivial⟩
theorem k_J0_checkIndex_df160 (l : Launch) (G : Gt) (sz : Nat) (x : Int32) (y : Int32) (hp : ¬ x < 0 ∧ x < y) : MetV l yJ0_checkIndex_df160 wsJ0_checkIndex_df160 1 22 G [.int x, .int y] [] sz (fun (_ : Unit) => True) (fun (_ : Unit) => []) :=
  c_J0_checkIndex_df160 l G  sz x y (v_J0_checkIndex_df160 l G  sz x y hp)

set_option maxHeartbeats 4000000 in
set_option maxRecDepth 100000 in
theorem c_J1_charAt_3b067 (l : Launch) (G : Gt) (sz : Nat) (i_ : Nat) (x : Int32) (hi9 : i_ < 9) (hv : (¬ x < 0 ∧ x < (nI (stL.getD i_ 0))) ∧ ((True) → ((vp_in x (stL.getD i_ 0)) ∧ ((narrow .char (.int (((((stB.getD i_ []).getD x.toNatClampNeg 0) &&& 255).toUInt32 % 65536).toInt32)) = .int (((((stB.getD i_ []).getD x.toNatClampNeg 0) &&& 255).toUInt32 % 65536).toInt32)) ∧ (((((stB.getD i_ []).getD x.toNatClampNeg 0) &&& 255).toUInt32 % 65536).toInt32 : Int32) = ((stB.getD i_ []).getD x.toNatClampNeg 0 &&& 255))))) : MetI l yJ1_charAt_3b067 wsJ1_charAt_3b067 2 43 G [.ref (vS G i_), .int x] [] sz (fun (r : Int32) (_ : Unit) => (r : Int32) = ((stB.getD i_ []).getD x.toNatClampNeg 0 &&& 255)) (fun (_ : Unit) => []) := by
  refine x_startI (cc := cJ1_charAt_3b067) (maxL := 2) (ret := (some .char)) (by decide) rfl (Nat.le_of_ble_eq_true rfl) ?_
  intro p e s m args below meth c A R Q ls hRf hRl hQ C hP hD hS hA hSS hl
  obtain ⟨hx, hb, hr, hml, hown, hts, hlocks, hKK⟩ := C
  have hown : s.vm.findClass RJ1 = some m.cls := hown
  have hl : lv_has ls 2 [(0, .ref (vS G i_)), (1, .int x)] := hl
  have hi9 := hi9
  refine lv_iload_n hx hb dJ1_charAt_3b067_0 rfl (lv_at hl 1 rfl) ?_
  refine lv_aload_n hx hb dJ1_charAt_3b067_1 rfl (lv_at hl 0 rfl) ?_
  refine va_tlen hx hb (hSS.1.1 i_ hi9).2.2.2 hS rfl dJ1_charAt_3b067_2 ?_
  obtain ⟨hp, hv⟩ := hv
  refine x_callvR (x_runS (As := [.int x, .int (nI (stL.getD i_ 0))]) (rest := []) (n := 2) ⟨hx, hb, hml, hown, hts⟩ (k_J0_checkIndex_df160 l G  _ x (nI (stL.getD i_ 0)) hp) gJ1_charAt_3b067_J0_checkIndex_df160 rfl (by decide +kernel) ⟨Nat.le_trans (Nat.le_of_ble_eq_true rfl) hRf, Nat.le_trans (Nat.le_of_ble_eq_true rfl) hRl⟩ hKK hSS hS hA hP hD [] (by decide) rfl rfl hl.1 rfl (Nat.le_of_ble_eq_true rfl) dJ1_charAt_3b067_3) hP hD hS hA [] rfl (fun _ H locs hw hP hS => ?_)
  have hv := hv  hw
  refine lv_aload_n hx hb dJ1_charAt_3b067_6 rfl (lv_at hl 0 rfl) ?_
  refine lv_iload_n hx hb dJ1_charAt_3b067_7 rfl (lv_at hl 1 rfl) ?_
  obtain ⟨hin, hv⟩ := hv
  refine va_tb hx hb (hSS.1.1 i_ hi9).2.2.2 hS hin rfl dJ1_charAt_3b067_8 ?_
  refine lv_sipush (v := 255) hx hb dJ1_charAt_3b067_9 (by decide) ?_
  refine lv_iand hx hb dJ1_charAt_3b067_12 ?_
  refine lv_i2c hx hb dJ1_charAt_3b067_13 rfl ?_
  exact x_zret (v := ((((stB.getD i_ []).getD x.toNatClampNeg 0) &&& 255).toUInt32 % 65536).toInt32) () hQ hx hb hr hlocks hS dJ1_charAt_3b067_14 hv.1 hv.2 hP hD
theorem v_J1_charAt_3b067 (l : Launch) (G : Gt) (sz : Nat) (i_ : Nat) (x : Int32) (hi9 : i_ < 9) (hp : vp_in x (stL.getD i_ 0)) : (¬ x < 0 ∧ x < (nI (stL.getD i_ 0))) ∧ ((True) → ((vp_in x (stL.getD i_ 0)) ∧ ((narrow .char (.int (((((stB.getD i_ []).getD x.toNatClampNeg 0) &&& 255).toUInt32 % 65536).toInt32)) = .int (((((stB.getD i_ []).getD x.toNatClampNeg 0) &&& 255).toUInt32 % 65536).toInt32)) ∧ (((((stB.getD i_ []).getD x.toNatClampNeg 0) &&& 255).toUInt32 % 65536).toInt32 : Int32) = ((stB.getD i_ []).getD x.toNatClampNeg 0 &&& 255)))) := by
  have h2 : ∀ i, i < 9 → ∀ k, k < stL.getD i 0 → (narrow .char (.int (((((stB.getD i []).getD k 0) &&& 255).toUInt32 % 65536).toInt32)) = .int (((((stB.getD i []).getD k 0) &&& 255).toUInt32 % 65536).toInt32)) ∧ (((((stB.getD i []).getD k 0) &&& 255).toUInt32 % 65536).toInt32 : Int32) = ((stB.getD i []).getD k 0 &&& 255) := by decide +kernel
  have hn := vp_nat hp
  have hl := st_l i_ hi9
  refine ⟨⟨?_, ?_⟩, fun _ => ⟨hp, h2 i_ hi9 _ hn.2.2.2⟩⟩
  · rw [i_lt rfl i32_0]; omega
  · rw [i_lt rfl (nI_toInt (by omega))]; exact hn.2.1
theorem k_J1_charAt_3b067 (l : Launch) (G : Gt) (sz : Nat) (i_ : Nat) (x : Int32) (hi9 : i_ < 9) (hp : vp_in x (stL.getD i_ 0)) : MetI l yJ1_charAt_3b067 wsJ1_charAt_3b067 2 43 G [.ref (vS G i_), .int x] [] sz (fun (r : Int32) (_ : Unit) => (r : Int32) = ((stB.getD i_ []).getD x.toNatClampNeg 0 &&& 255)) (fun (_ : Unit) => []) :=
  c_J1_charAt_3b067 l G  sz i_ x hi9 (v_J1_charAt_3b067 l G  sz i_ x hi9 hp)

set_option maxHeartbeats 4000000 in
set_option maxRecDepth 100000 in
theorem c_J0_isLatin1_aae02 (l : Launch) (G : Gt) (sz : Nat) (i_ : Nat) (hi9 : i_ < 9) (hv : (1 : Int32) = 1) : MetI l yJ0_isLatin1_aae02 wsJ0_isLatin1_aae02 0 0 G [.ref (kS G i_)] [] sz (fun (r : Int32) (_ : Unit) => (r : Int32) = 1) (fun (_ : Unit) => []) := by
  refine x_startI (cc := cJ0_isLatin1_aae02) (maxL := 1) (ret := (some .boolean)) (by decide) rfl (Nat.le_of_ble_eq_true rfl) ?_
  intro p e s m args below meth c A R Q ls hRf hRl hQ C hP hD hS hA hSS hl
  obtain ⟨hx, hb, hr, hml, hown, hts, hlocks, hKK⟩ := C
  have hown : s.vm.findClass RJ0 = some m.cls := hown
  have hl : lv_has ls 1 [(0, .ref (kS G i_))] := hl
  have hi9 := hi9
  have kl15 := hts (.fieldLink RJ0 15 "java/lang/String" "coder" "B") (by decide +kernel)
  have kl38 := hts (.fieldLink RJ0 38 "java/lang/String" "COMPACT_STRINGS" "Z") (by decide +kernel)
  refine va_gets hx hb hSS.2.2.1 hS hown kl38 (fun _ h9 => h9) dJ0_isLatin1_aae02_0 ?_
  refine lv_if_eq (tgt := 17) hx hb dJ0_isLatin1_aae02_3 (by decide) (fun hc_1 => absurd hc_1 (by decide)) (fun hc_1 => ?_)
  refine lv_aload_n hx hb dJ0_isLatin1_aae02_6 rfl (lv_at hl 0 rfl) ?_
  refine vk_getf hx hb (hSS.1.1 i_ hi9).2.1 hS hown kl15 (fun _ h9 => h9) dJ0_isLatin1_aae02_7 ?_
  refine lv_if_ne (tgt := 17) hx hb dJ0_isLatin1_aae02_10 (by decide) (fun hc_2 => absurd hc_2 (by decide)) (fun hc_2 => ?_)
  refine lv_iconst (v := 1) hx hb dJ0_isLatin1_aae02_13 (by decide) ?_
  refine lv_goto (tgt := 18) hx hb dJ0_isLatin1_aae02_14 (by decide) ?_
  exact x_zret (v := 1) () hQ hx hb hr hlocks hS dJ0_isLatin1_aae02_18 rfl hv hP hD
theorem v_J0_isLatin1_aae02 (l : Launch) (G : Gt) (sz : Nat) (i_ : Nat) (hi9 : i_ < 9) : (1 : Int32) = 1 := by
  rfl
theorem k_J0_isLatin1_aae02 (l : Launch) (G : Gt) (sz : Nat) (i_ : Nat) (hi9 : i_ < 9) : MetI l yJ0_isLatin1_aae02 wsJ0_isLatin1_aae02 0 0 G [.ref (kS G i_)] [] sz (fun (r : Int32) (_ : Unit) => (r : Int32) = 1) (fun (_ : Unit) => []) :=
  c_J0_isLatin1_aae02 l G  sz i_ hi9 (v_J0_isLatin1_aae02 l G  sz i_ hi9)

set_option maxHeartbeats 4000000 in
set_option maxRecDepth 100000 in
theorem c_J0_coder_7d493 (l : Launch) (G : Gt) (sz : Nat) (i_ : Nat) (hi9 : i_ < 9) (hv : (0 : Int32) = 0) : MetI l yJ0_coder_7d493 wsJ0_coder_7d493 0 0 G [.ref (kS G i_)] [] sz (fun (r : Int32) (_ : Unit) => (r : Int32) = 0) (fun (_ : Unit) => []) := by
  refine x_startI (cc := cJ0_coder_7d493) (maxL := 1) (ret := (some .byte)) (by decide) rfl (Nat.le_of_ble_eq_true rfl) ?_
  intro p e s m args below meth c A R Q ls hRf hRl hQ C hP hD hS hA hSS hl
  obtain ⟨hx, hb, hr, hml, hown, hts, hlocks, hKK⟩ := C
  have hown : s.vm.findClass RJ0 = some m.cls := hown
  have hl : lv_has ls 1 [(0, .ref (kS G i_))] := hl
  have hi9 := hi9
  have kl15 := hts (.fieldLink RJ0 15 "java/lang/String" "coder" "B") (by decide +kernel)
  have kl38 := hts (.fieldLink RJ0 38 "java/lang/String" "COMPACT_STRINGS" "Z") (by decide +kernel)
  refine va_gets hx hb hSS.2.2.1 hS hown kl38 (fun _ h9 => h9) dJ0_coder_7d493_0 ?_
  refine lv_if_eq (tgt := 13) hx hb dJ0_coder_7d493_3 (by decide) (fun hc_1 => absurd hc_1 (by decide)) (fun hc_1 => ?_)
  refine lv_aload_n hx hb dJ0_coder_7d493_6 rfl (lv_at hl 0 rfl) ?_
  refine vk_getf hx hb (hSS.1.1 i_ hi9).2.1 hS hown kl15 (fun _ h9 => h9) dJ0_coder_7d493_7 ?_
  refine lv_goto (tgt := 14) hx hb dJ0_coder_7d493_10 (by decide) ?_
  exact x_zret (v := 0) () hQ hx hb hr hlocks hS dJ0_coder_7d493_14 rfl hv hP hD
theorem v_J0_coder_7d493 (l : Launch) (G : Gt) (sz : Nat) (i_ : Nat) (hi9 : i_ < 9) : (0 : Int32) = 0 := by
  rfl
theorem k_J0_coder_7d493 (l : Launch) (G : Gt) (sz : Nat) (i_ : Nat) (hi9 : i_ < 9) : MetI l yJ0_coder_7d493 wsJ0_coder_7d493 0 0 G [.ref (kS G i_)] [] sz (fun (r : Int32) (_ : Unit) => (r : Int32) = 0) (fun (_ : Unit) => []) :=
  c_J0_coder_7d493 l G  sz i_ hi9 (v_J0_coder_7d493 l G  sz i_ hi9)

set_option maxHeartbeats 4000000 in
set_option maxRecDepth 100000 in
theorem c_J0_length_8abf5 (l : Launch) (G : Gt) (sz : Nat) (i_ : Nat) (hi9 : i_ < 9) (hv : (((nI (stL.getD i_ 0)) >>> (0 &&& 31)) : Int32) = nI (stL.getD i_ 0)) : MetI l yJ0_length_8abf5 wsJ0_length_8abf5 1 20 G [.ref (kS G i_)] [] sz (fun (r : Int32) (_ : Unit) => (r : Int32) = nI (stL.getD i_ 0)) (fun (_ : Unit) => []) := by
  refine x_startI (cc := cJ0_length_8abf5) (maxL := 1) (ret := (some .int)) (by decide) rfl (Nat.le_of_ble_eq_true rfl) ?_
  intro p e s m args below meth c A R Q ls hRf hRl hQ C hP hD hS hA hSS hl
  obtain ⟨hx, hb, hr, hml, hown, hts, hlocks, hKK⟩ := C
  have hown : s.vm.findClass RJ0 = some m.cls := hown
  have hl : lv_has ls 1 [(0, .ref (kS G i_))] := hl
  have hi9 := hi9
  have kl9 := hts (.fieldLink RJ0 9 "java/lang/String" "value" "[B") (by decide +kernel)
  refine lv_aload_n hx hb dJ0_length_8abf5_0 rfl (lv_at hl 0 rfl) ?_
  refine vk_getf hx hb (hSS.1.1 i_ hi9).2.2.1 hS hown kl9 (fun _ h9 => h9) dJ0_length_8abf5_1 ?_
  refine va_tlen hx hb (hSS.1.1 i_ hi9).2.2.2 hS rfl dJ0_length_8abf5_4 ?_
  refine lv_aload_n hx hb dJ0_length_8abf5_5 rfl (lv_at hl 0 rfl) ?_
  refine x_calliR (x_runVK (i := i_) (As := []) (rest := [.int (nI (stL.getD i_ 0))]) (n := 0) ⟨hx, hb, hml, hown, hts⟩ (k_J0_coder_7d493 l G  _ i_ hi9) gJ0_length_8abf5_J0_coder_7d493 rfl (by decide +kernel) ⟨Nat.le_trans (Nat.le_of_ble_eq_true rfl) hRf, Nat.le_trans (Nat.le_of_ble_eq_true rfl) hRl⟩ hKK hSS hS hA hP hD hi9 [] (by decide) rfl rfl hl.1 rfl (Nat.le_of_ble_eq_true rfl) dJ0_length_8abf5_6) hP hD hS hA [] rfl (fun r_1 _ H locs hw hP hS => ?_)
  replace hw := hw.symm; subst hw
  refine lv_ishr hx hb dJ0_length_8abf5_9 ?_
  exact x_iret (v := ((nI (stL.getD i_ 0)) >>> (0 &&& 31))) () hQ hx hb hr hlocks hS dJ0_length_8abf5_10 hv hP hD
theorem v_J0_length_8abf5 (l : Launch) (G : Gt) (sz : Nat) (i_ : Nat) (hi9 : i_ < 9) : (((nI (stL.getD i_ 0)) >>> (0 &&& 31)) : Int32) = nI (stL.getD i_ 0) := by
  have h : ∀ i, i < 9 → (((nI (stL.getD i 0)) >>> ((0 : Int32) &&& 31)) : Int32) = nI (stL.getD i 0) := by decide +kernel
  exact h i_ hi9
theorem k_J0_length_8abf5 (l : Launch) (G : Gt) (sz : Nat) (i_ : Nat) (hi9 : i_ < 9) : MetI l yJ0_length_8abf5 wsJ0_length_8abf5 1 20 G [.ref (kS G i_)] [] sz (fun (r : Int32) (_ : Unit) => (r : Int32) = nI (stL.getD i_ 0)) (fun (_ : Unit) => []) :=
  c_J0_length_8abf5 l G  sz i_ hi9 (v_J0_length_8abf5 l G  sz i_ hi9)

set_option maxHeartbeats 4000000 in
set_option maxRecDepth 100000 in
theorem c_J0_charAt_5068e (l : Launch) (G : Gt) (sz : Nat) (i_ : Nat) (x : Int32) (hi9 : i_ < 9) (hv : (vp_in x (stL.getD i_ 0)) ∧ ((narrow .char (.int ((stB.getD i_ []).getD x.toNatClampNeg 0 &&& 255)) = .int ((stB.getD i_ []).getD x.toNatClampNeg 0 &&& 255)) ∧ (((stB.getD i_ []).getD x.toNatClampNeg 0 &&& 255) : Int32) = ((stB.getD i_ []).getD x.toNatClampNeg 0 &&& 255))) : MetI l yJ0_charAt_5068e wsJ0_charAt_5068e 3 64 G [.ref (kS G i_), .int x] [] sz (fun (r : Int32) (_ : Unit) => (r : Int32) = ((stB.getD i_ []).getD x.toNatClampNeg 0 &&& 255)) (fun (_ : Unit) => []) := by
  refine x_startI (cc := cJ0_charAt_5068e) (maxL := 2) (ret := (some .char)) (by decide) rfl (Nat.le_of_ble_eq_true rfl) ?_
  intro p e s m args below meth c A R Q ls hRf hRl hQ C hP hD hS hA hSS hl
  obtain ⟨hx, hb, hr, hml, hown, hts, hlocks, hKK⟩ := C
  have hown : s.vm.findClass RJ0 = some m.cls := hown
  have hl : lv_has ls 2 [(0, .ref (kS G i_)), (1, .int x)] := hl
  have hi9 := hi9
  have kl9 := hts (.fieldLink RJ0 9 "java/lang/String" "value" "[B") (by decide +kernel)
  refine lv_aload_n hx hb dJ0_charAt_5068e_0 rfl (lv_at hl 0 rfl) ?_
  refine x_calliR (x_runVK (i := i_) (As := []) (rest := []) (n := 0) ⟨hx, hb, hml, hown, hts⟩ (k_J0_isLatin1_aae02 l G  _ i_ hi9) gJ0_charAt_5068e_J0_isLatin1_aae02 rfl (by decide +kernel) ⟨Nat.le_trans (Nat.le_of_ble_eq_true rfl) hRf, Nat.le_trans (Nat.le_of_ble_eq_true rfl) hRl⟩ hKK hSS hS hA hP hD hi9 [] (by decide) rfl rfl hl.1 rfl (Nat.le_of_ble_eq_true rfl) dJ0_charAt_5068e_1) hP hD hS hA [] rfl (fun r_1 _ H locs hw hP hS => ?_)
  replace hw := hw.symm; subst hw
  refine lv_if_eq (tgt := 16) hx hb dJ0_charAt_5068e_4 (by decide) (fun hc_2 => absurd hc_2 (by decide)) (fun hc_2 => ?_)
  refine lv_aload_n hx hb dJ0_charAt_5068e_7 rfl (lv_at hl 0 rfl) ?_
  refine vk_getf hx hb (hSS.1.1 i_ hi9).2.2.1 hS hown kl9 (fun _ h9 => h9) dJ0_charAt_5068e_8 ?_
  refine lv_iload_n hx hb dJ0_charAt_5068e_11 rfl (lv_at hl 1 rfl) ?_
  obtain ⟨hp, hv⟩ := hv
  refine x_calliR (x_runS (As := [.ref (vS G i_), .int x]) (rest := []) (n := 2) ⟨hx, hb, hml, hown, hts⟩ (k_J1_charAt_3b067 l G  _ i_ x hi9 hp) gJ0_charAt_5068e_J1_charAt_3b067 rfl (by decide +kernel) ⟨Nat.le_trans (Nat.le_of_ble_eq_true rfl) hRf, Nat.le_trans (Nat.le_of_ble_eq_true rfl) hRl⟩ hKK hSS hS hA hP hD [] (by decide) rfl rfl hl.1 rfl (Nat.le_of_ble_eq_true rfl) dJ0_charAt_5068e_12) hP hD hS hA [] rfl (fun r_3 _ H locs hw hP hS => ?_)
  replace hw := hw.symm; subst hw
  exact x_zret (v := ((stB.getD i_ []).getD x.toNatClampNeg 0 &&& 255)) () hQ hx hb hr hlocks hS dJ0_charAt_5068e_15 hv.1 hv.2 hP hD
theorem v_J0_charAt_5068e (l : Launch) (G : Gt) (sz : Nat) (i_ : Nat) (x : Int32) (hi9 : i_ < 9) (hp : vp_in x (stL.getD i_ 0)) : (vp_in x (stL.getD i_ 0)) ∧ ((narrow .char (.int ((stB.getD i_ []).getD x.toNatClampNeg 0 &&& 255)) = .int ((stB.getD i_ []).getD x.toNatClampNeg 0 &&& 255)) ∧ (((stB.getD i_ []).getD x.toNatClampNeg 0 &&& 255) : Int32) = ((stB.getD i_ []).getD x.toNatClampNeg 0 &&& 255)) := by
  have h2 : ∀ i, i < 9 → ∀ k, k < stL.getD i 0 → (narrow .char (.int ((stB.getD i []).getD k 0 &&& 255)) = .int ((stB.getD i []).getD k 0 &&& 255)) := by decide +kernel
  exact ⟨hp, h2 i_ hi9 _ (vp_nat hp).2.2.2, rfl⟩
theorem k_J0_charAt_5068e (l : Launch) (G : Gt) (sz : Nat) (i_ : Nat) (x : Int32) (hi9 : i_ < 9) (hp : vp_in x (stL.getD i_ 0)) : MetI l yJ0_charAt_5068e wsJ0_charAt_5068e 3 64 G [.ref (kS G i_), .int x] [] sz (fun (r : Int32) (_ : Unit) => (r : Int32) = ((stB.getD i_ []).getD x.toNatClampNeg 0 &&& 255)) (fun (_ : Unit) => []) :=
  c_J0_charAt_5068e l G  sz i_ x hi9 (v_J0_charAt_5068e l G  sz i_ x hi9 hp)

set_option maxHeartbeats 4000000 in
set_option maxRecDepth 100000 in
theorem c_X5_hasRoomFor (l : Launch) (G : Gt) (e0 e01 : Nat) (sz : Nat) (xb : Nat → Int32) (xl : Int32) (xf : Int32) (xg : Int32) (xa : Int32) (xt : Int32) (xr : Int32) (xn : Int32) (x : Int32) (hv : (400 < (xl + x) → (0 : Int32) = (if ¬ 400 < xl + x then 1 else 0)) ∧ (¬ (400 < (xl + x)) → (1 : Int32) = (if ¬ 400 < xl + x then 1 else 0))) : MetI l yX5_hasRoomFor wsX5_hasRoomFor 0 0 G [.ref e0, .int x] [(e0, .inr (5, [.ref e01, .int xl, .int xf, .int xg, .int xa, .int xt, .int xr, .int xn])), aB G e01 400 xb] sz (fun (r : Int32) (_ : Unit) => (r : Int32) = (if ¬ 400 < xl + x then 1 else 0)) (fun (_ : Unit) => [(e0, .inr (5, [.ref e01, .int xl, .int xf, .int xg, .int xa, .int xt, .int xr, .int xn])), aB G e01 400 xb]) := by
  refine x_startI (cc := cX5_hasRoomFor) (maxL := 2) (ret := (some .boolean)) (by decide) rfl (Nat.le_of_ble_eq_true rfl) ?_
  intro p e s m args below meth c A R Q ls hRf hRl hQ C hP hD hS hA hSS hl
  obtain ⟨hx, hb, hr, hml, hown, hts, hlocks, hKK⟩ := C
  have hown : s.vm.findClass RX5 = some m.cls := hown
  have hl : lv_has ls 2 [(0, .ref e0), (1, .int x)] := hl
  have hinX5 : ∀ w ∈ u_ws RX5 TX5 8, w ∈ wsX5_hasRoomFor := by decide +kernel
  have kl19 := hts (.fieldLink RX5 19 "WarmStones$Text" "length" "I") (by decide +kernel)
  refine lv_aload_n hx hb dX5_hasRoomFor_0 rfl (lv_at hl 0 rfl) ?_
  refine va_get (D := G.1) (ci := 5) (v := .int xl) (C := RX5) (T := TX5) (N := 8) hx hb hts hinX5 hown hKK.1 hP 0 rfl rfl 1 (by decide) kl19 (fun _ h9 => h9) rfl dX5_hasRoomFor_1 ?_
  refine lv_iload_n hx hb dX5_hasRoomFor_4 rfl (lv_at hl 1 rfl) ?_
  refine lv_iadd hx hb dX5_hasRoomFor_5 ?_
  refine lv_sipush (v := 400) hx hb dX5_hasRoomFor_6 (by decide) ?_
  refine lv_icmp_gt (tgt := 16) hx hb dX5_hasRoomFor_9 (by decide) (fun hc_1 => ?_) (fun hc_1 => ?_)
  · have hv := hv.1 hc_1
    refine lv_iconst (v := 0) hx hb dX5_hasRoomFor_16 (by decide) ?_
    exact x_zret (v := 0) () hQ hx hb hr hlocks hS dX5_hasRoomFor_17 rfl hv hP hD
  · have hv := hv.2 hc_1
    refine lv_iconst (v := 1) hx hb dX5_hasRoomFor_12 (by decide) ?_
    refine lv_goto (tgt := 17) hx hb dX5_hasRoomFor_13 (by decide) ?_
    exact x_zret (v := 1) () hQ hx hb hr hlocks hS dX5_hasRoomFor_17 rfl hv hP hD
theorem v_X5_hasRoomFor (l : Launch) (G : Gt) (e0 e01 : Nat) (sz : Nat) (xb : Nat → Int32) (xl : Int32) (xf : Int32) (xg : Int32) (xa : Int32) (xt : Int32) (xr : Int32) (xn : Int32) (x : Int32) : (400 < (xl + x) → (0 : Int32) = (if ¬ 400 < xl + x then 1 else 0)) ∧ (¬ (400 < (xl + x)) → (1 : Int32) = (if ¬ 400 < xl + x then 1 else 0)) := by
  exact ⟨fun h => by rw [if_neg (fun z => z h)], fun h => by rw [if_pos h]⟩
theorem k_X5_hasRoomFor (l : Launch) (G : Gt) (e0 e01 : Nat) (sz : Nat) (xb : Nat → Int32) (xl : Int32) (xf : Int32) (xg : Int32) (xa : Int32) (xt : Int32) (xr : Int32) (xn : Int32) (x : Int32) : MetI l yX5_hasRoomFor wsX5_hasRoomFor 0 0 G [.ref e0, .int x] [(e0, .inr (5, [.ref e01, .int xl, .int xf, .int xg, .int xa, .int xt, .int xr, .int xn])), aB G e01 400 xb] sz (fun (r : Int32) (_ : Unit) => (r : Int32) = (if ¬ 400 < xl + x then 1 else 0)) (fun (_ : Unit) => [(e0, .inr (5, [.ref e01, .int xl, .int xf, .int xg, .int xa, .int xt, .int xr, .int xn])), aB G e01 400 xb]) :=
  c_X5_hasRoomFor l G e0 e01 sz xb xl xf xg xa xt xr xn x (v_X5_hasRoomFor l G e0 e01 sz xb xl xf xg xa xt xr xn x)

set_option maxHeartbeats 4000000 in
set_option maxRecDepth 100000 in
theorem c_X5_append (l : Launch) (G : Gt) (e0 e01 : Nat) (sz : Nat) (xb : Nat → Int32) (xl : Int32) (xf : Int32) (xg : Int32) (xa : Int32) (xt : Int32) (xr : Int32) (xn : Int32) (x : Int32) (y : Int64) (B : Nat → Int) (L : Nat) (nq : Nat) (hv : ∃ (I5_4 : (Nat → Int32) → Int32 → Int32 → Prop) (μ5_5 : (Nat → Int32) → Int32 → Int32 → Nat), I5_4 xb xl (x - 1) ∧ (∀ (fe01_1 : (Nat → Int32)) (ge01_2 : Int32) (x4_3 : Int32), I5_4 fe01_1 ge01_2 x4_3 → (x4_3 < 0 → CX (fdB B L nq y) (L + nq) fe01_1 ge01_2) ∧ (¬ (x4_3 < 0) → (400 ≤ ge01_2 → CX (fdB B L nq y) (L + nq) fe01_1 ge01_2) ∧ (¬ (400 ≤ ge01_2) → (vp_in ge01_2 400) ∧ (I5_4 (upd fe01_1 ge01_2.toNatClampNeg (vp_nar .byte (((((y).toUInt64 >>> (((8 * x4_3) : Int32).toInt64.toUInt64 &&& Int64.toUInt64 63)).toInt64).toInt32).toInt8.toInt32))) (ge01_2 + 1) (x4_3 + (-1)) ∧ μ5_5 (upd fe01_1 ge01_2.toNatClampNeg (vp_nar .byte (((((y).toUInt64 >>> (((8 * x4_3) : Int32).toInt64.toUInt64 &&& Int64.toUInt64 63)).toInt64).toInt32).toInt8.toInt32))) (ge01_2 + 1) (x4_3 + (-1)) < μ5_5 fe01_1 ge01_2 x4_3))))) : MetV l yX5_append wsX5_append 0 0 G [.ref e0, .int x, .long y] [(e0, .inr (5, [.ref e01, .int xl, .int xf, .int xg, .int xa, .int xt, .int xr, .int xn])), aB G e01 400 xb] sz (fun (u : (Nat → Int32) × (Int32)) => CX (fdB B L nq y) (L + nq) u.1 u.2) (fun (u : (Nat → Int32) × (Int32)) => [(e0, .inr (5, [.ref e01, .int u.2, .int xf, .int xg, .int xa, .int xt, .int xr, .int xn])), aB G e01 400 u.1]) := by
  refine x_startV (cc := cX5_append) (maxL := 5) (ret := none) (by decide) rfl (Nat.le_of_ble_eq_true rfl) ?_
  intro p e s m args below meth c A R Q ls hRf hRl hQ C hP hD hS hA hSS hl
  obtain ⟨hx, hb, hr, hml, hown, hts, hlocks, hKK⟩ := C
  have hown : s.vm.findClass RX5 = some m.cls := hown
  have hl : lv_has ls 5 [(0, .ref e0), (1, .int x), (2, .long y)] := hl
  have hinX5 : ∀ w ∈ u_ws RX5 TX5 8, w ∈ wsX5_append := by decide +kernel
  have kl19 := hts (.fieldLink RX5 19 "WarmStones$Text" "length" "I") (by decide +kernel)
  have kl9 := hts (.fieldLink RX5 9 "WarmStones$Text" "bytes" "[B") (by decide +kernel)
  refine lv_iload_n hx hb dX5_append_0 rfl (lv_at hl 1 rfl) ?_
  refine lv_iconst (v := 1) hx hb dX5_append_1 (by decide) ?_
  refine lv_isub hx hb dX5_append_2 ?_
  refine lv_istore (lv' := [(4, .int (x - 1)), (0, .ref e0), (1, .int x), (2, .long y)]) hx hb dX5_append_3 hl (by decide) rfl (fun ls hl => ?_)
  obtain ⟨I5_4, μ5_5, hi0, hs_10⟩ := hv
  have Lm_12 : ∀ (n_11 : Nat) (fe01_1 : (Nat → Int32)) (ge01_2 : Int32) (x4_3 : Int32) (H : Heap) (locs : List Loc) (ls : Array Slot), μ5_5 fe01_1 ge01_2 x4_3 < n_11 → I5_4 fe01_1 ge01_2 x4_3 → va_P G.1 vwCl [(e0, .inr (5, [.ref e01, .int ge01_2, .int xf, .int xg, .int xa, .int xt, .int xr, .int xn])), aB G e01 400 fe01_1] H → va_D A [(e0, .inr (5, [.ref e01, .int ge01_2, .int xf, .int xg, .int xa, .int xt, .int xr, .int xn])), aB G e01 400 fe01_1] → va_S A s.heap H locs → lv_has ls 5 [(4, .int x4_3), (0, .ref e0), (1, .int x), (2, .long y)] → W p l e R s m args below meth c H locs 0 0 Q (F0 m 5 ls []) := by
    intro n_11
    induction n_11 with
    | zero => intro fe01_1 ge01_2 x4_3 H locs ls hm; exact absurd hm (Nat.not_lt_zero _)
    | succ n_11 ih_6 =>
      intro fe01_1 ge01_2 x4_3 H locs ls hI_7 hi hP hD hS hl
      have hv := hs_10 fe01_1 ge01_2 x4_3 hi
      refine lv_iload hx hb dX5_append_5 (lv_at hl 0 rfl) ?_
      refine lv_if_lt (tgt := 54) hx hb dX5_append_7 (by decide) (fun hc_8 => ?_) (fun hc_8 => ?_)
      · have hv := hv.1 hc_8
        exact x_vret (fe01_1, ge01_2) hQ hx hb hr hlocks hS dX5_append_54 hv hP hD
      · have hv := hv.2 hc_8
        refine lv_aload_n hx hb dX5_append_10 rfl (lv_at hl 1 rfl) ?_
        refine va_get (D := G.1) (ci := 5) (v := .int ge01_2) (C := RX5) (T := TX5) (N := 8) hx hb hts hinX5 hown hKK.1 hP 0 rfl rfl 1 (by decide) kl19 (fun _ h9 => h9) rfl dX5_append_11 ?_
        refine lv_sipush (v := 400) hx hb dX5_append_14 (by decide) ?_
        refine lv_icmp_ge (tgt := 54) hx hb dX5_append_17 (by decide) (fun hc_9 => ?_) (fun hc_9 => ?_)
        · have hv := hv.1 hc_9
          exact x_vret (fe01_1, ge01_2) hQ hx hb hr hlocks hS dX5_append_54 hv hP hD
        · have hv := hv.2 hc_9
          refine lv_aload_n hx hb dX5_append_20 rfl (lv_at hl 1 rfl) ?_
          refine va_get (D := G.1) (ci := 5) (v := .ref e01) (C := RX5) (T := TX5) (N := 8) hx hb hts hinX5 hown hKK.1 hP 0 rfl rfl 0 (by decide) kl9 (fun _ h9 => h9) rfl dX5_append_21 ?_
          refine lv_aload_n hx hb dX5_append_24 rfl (lv_at hl 1 rfl) ?_
          refine va_get (D := G.1) (ci := 5) (v := .int ge01_2) (C := RX5) (T := TX5) (N := 8) hx hb hts hinX5 hown hKK.1 hP 0 rfl rfl 1 (by decide) kl19 (fun _ h9 => h9) rfl dX5_append_25 ?_
          refine lv_lload_n hx hb dX5_append_28 rfl (lv_at hl 3 rfl) ?_
          refine lv_bipush (v := 8) hx hb dX5_append_29 (by decide) ?_
          refine lv_iload hx hb dX5_append_31 (lv_at hl 0 rfl) ?_
          refine lv_imul hx hb dX5_append_33 ?_
          refine lv_lushr hx hb dX5_append_34 rfl ?_
          refine lv_l2i hx hb dX5_append_35 rfl ?_
          refine lv_i2b hx hb dX5_append_36 rfl ?_
          obtain ⟨hin, hv⟩ := hv
          refine va_bast hx hb hKK.1 hP hD hS 1 1 rfl rfl hin dX5_append_37 (fun H locs hP hD hS => ?_)
          have hP : va_P G.1 vwCl [(e0, .inr (5, [.ref e01, .int ge01_2, .int xf, .int xg, .int xa, .int xt, .int xr, .int xn])), aB G e01 400 (upd fe01_1 ge01_2.toNatClampNeg (vp_nar .byte (((((y).toUInt64 >>> (((8 * x4_3) : Int32).toInt64.toUInt64 &&& Int64.toUInt64 63)).toInt64).toInt32).toInt8.toInt32)))] H := hP
          have hD : va_D A [(e0, .inr (5, [.ref e01, .int ge01_2, .int xf, .int xg, .int xa, .int xt, .int xr, .int xn])), aB G e01 400 (upd fe01_1 ge01_2.toNatClampNeg (vp_nar .byte (((((y).toUInt64 >>> (((8 * x4_3) : Int32).toInt64.toUInt64 &&& Int64.toUInt64 63)).toInt64).toInt32).toInt8.toInt32)))] := hD
          refine lv_aload_n hx hb dX5_append_38 rfl (lv_at hl 1 rfl) ?_
          refine lv_dup hx hb dX5_append_39 rfl ?_
          refine va_get (D := G.1) (ci := 5) (v := .int ge01_2) (C := RX5) (T := TX5) (N := 8) hx hb hts hinX5 hown hKK.1 hP 0 rfl rfl 1 (by decide) kl19 (fun _ h9 => h9) rfl dX5_append_40 ?_
          refine lv_iconst (v := 1) hx hb dX5_append_43 (by decide) ?_
          refine lv_iadd hx hb dX5_append_44 ?_
          refine va_put (D := G.1) (ci := 5) (v := .int (ge01_2 + 1)) (ty := .int) (C := RX5) (T := TX5) (N := 8) hx hb hts hinX5 tyX5 tyX5_ok nmX5 hown hKK.1 hP hD hS 0 rfl rfl 1 (by decide) kl19 (fun _ h9 => h9) rfl (by decide +kernel) rfl rfl (Nat.le_of_ble_eq_true rfl) dX5_append_45 (fun H locs hP hD hS => ?_)
          have hP : va_P G.1 vwCl [(e0, .inr (5, [.ref e01, .int (ge01_2 + 1), .int xf, .int xg, .int xa, .int xt, .int xr, .int xn])), aB G e01 400 (upd fe01_1 ge01_2.toNatClampNeg (vp_nar .byte (((((y).toUInt64 >>> (((8 * x4_3) : Int32).toInt64.toUInt64 &&& Int64.toUInt64 63)).toInt64).toInt32).toInt8.toInt32)))] H := hP
          have hD : va_D A [(e0, .inr (5, [.ref e01, .int (ge01_2 + 1), .int xf, .int xg, .int xa, .int xt, .int xr, .int xn])), aB G e01 400 (upd fe01_1 ge01_2.toNatClampNeg (vp_nar .byte (((((y).toUInt64 >>> (((8 * x4_3) : Int32).toInt64.toUInt64 &&& Int64.toUInt64 63)).toInt64).toInt32).toInt8.toInt32)))] := hD
          refine lv_iinc (v := (x4_3 + (-1))) (lv' := [(4, .int (x4_3 + (-1))), (0, .ref e0), (1, .int x), (2, .long y)]) hx hb dX5_append_48 hl (k := 0) rfl rfl (by decide) rfl (fun ls hl => ?_)
          refine lv_goto (tgt := 5) hx hb dX5_append_51 (by decide) ?_
          exact ih_6 _ _ _ _ _ _ (Nat.lt_of_lt_of_le hv.2 (Nat.le_of_lt_succ hI_7)) hv.1 hP hD hS hl
  exact Lm_12 _ _ _ _ _ _ _ (Nat.lt_succ_self _) hi0 hP hD hS hl
theorem v_X5_append (l : Launch) (G : Gt) (e0 e01 : Nat) (sz : Nat) (xb : Nat → Int32) (xl : Int32) (xf : Int32) (xg : Int32) (xa : Int32) (xt : Int32) (xr : Int32) (xn : Int32) (x : Int32) (y : Int64) (B : Nat → Int) (L : Nat) (nq : Nat) (hp : CX B L xb xl ∧ x = nI nq ∧ 1 ≤ nq ∧ nq ≤ 8 ∧ L + nq ≤ 400) : ∃ (I5_4 : (Nat → Int32) → Int32 → Int32 → Prop) (μ5_5 : (Nat → Int32) → Int32 → Int32 → Nat), I5_4 xb xl (x - 1) ∧ (∀ (fe01_1 : (Nat → Int32)) (ge01_2 : Int32) (x4_3 : Int32), I5_4 fe01_1 ge01_2 x4_3 → (x4_3 < 0 → CX (fdB B L nq y) (L + nq) fe01_1 ge01_2) ∧ (¬ (x4_3 < 0) → (400 ≤ ge01_2 → CX (fdB B L nq y) (L + nq) fe01_1 ge01_2) ∧ (¬ (400 ≤ ge01_2) → (vp_in ge01_2 400) ∧ (I5_4 (upd fe01_1 ge01_2.toNatClampNeg (vp_nar .byte (((((y).toUInt64 >>> (((8 * x4_3) : Int32).toInt64.toUInt64 &&& Int64.toUInt64 63)).toInt64).toInt32).toInt8.toInt32))) (ge01_2 + 1) (x4_3 + (-1)) ∧ μ5_5 (upd fe01_1 ge01_2.toNatClampNeg (vp_nar .byte (((((y).toUInt64 >>> (((8 * x4_3) : Int32).toInt64.toUInt64 &&& Int64.toUInt64 63)).toInt64).toInt32).toInt8.toInt32))) (ge01_2 + 1) (x4_3 + (-1)) < μ5_5 fe01_1 ge01_2 x4_3)))) := by
  obtain ⟨hX, rfl, hn1, hn8, h400⟩ := hp
  have hL := hX.1
  have hxl := hX.2.1
  have e0 : nI nq - 1 = nI nq - 1 := rfl
  refine ⟨fun f g z => ∃ j, j ≤ nq ∧ z = nI (nq - j) - 1 ∧ g = nI (L + j) ∧ ∀ i, i < L + j → 0 ≤ fdB B L nq y i ∧ fdB B L nq y i ≤ 255 ∧ (f i).toInt = sg (fdB B L nq y i), fun _ g _ => 401 - g.toNatClampNeg, ⟨0, by omega, rfl, hxl, fun i hi => ?_⟩, ?_⟩
  · rw [Nat.add_zero] at hi
    unfold fdB
    rw [if_pos hi]
    exact hX.at hi
  rintro f g z ⟨j, hj, rfl, rfl, hf⟩
  have hz := nm_i (d := nq - j) (by omega)
  have eg : (nI (L + j)).toNatClampNeg = L + j := nI_clamp (by omega)
  have eg1 : nI (L + j) + 1 = nI (L + j + 1) := nI_1 (L + j)
  have eg2 : (nI (L + j + 1)).toNatClampNeg = L + j + 1 := nI_clamp (by omega)
  have hz0 : nI (nq - j) - 1 < 0 ↔ j = nq := by
    rw [i_lt hz i32_0]; omega
  have h4 : 400 ≤ nI (L + j) ↔ 400 ≤ L + j := nI_leI (a := 400) (by omega) (by omega)
  simp only [eg, eg1, eg2, hz0, h4]
  have fin : j = nq → CX (fdB B L nq y) (L + nq) f (nI (L + j)) := fun e => by
    subst e
    exact ⟨h400, rfl, hf⟩
  refine ⟨fin, fun q => ⟨fun q2 => fin (by omega), fun q2 => ⟨vp_in_nI (by omega) (by omega), ⟨j + 1, by omega, ?_, rfl, fun i hi => ?_⟩, by omega⟩⟩⟩
  · rw [← Int32.toInt_inj, i_add hz (show (-1 : Int32).toInt = -1 from rfl) (by omega) (by omega), nm_i (by omega)]
    omega
  · by_cases e : i = L + j
    · subst e
      have ek : fdB B L nq y (L + j) = byZ y (nq - 1 - j) := by
        unfold fdB
        rw [if_neg (by omega), show L + j - L = j by omega]
      have bb := byZ_bd y (nq - 1 - j)
      rw [ek, upd_at]
      refine ⟨bb.1, bb.2, ?_⟩
      rw [nm_s (by omega) (by omega), show nq - j - 1 = nq - 1 - j by omega]
      exact by_cls y (by omega)
    · rw [upd_ne e]
      exact hf i (by omega)
theorem k_X5_append (l : Launch) (G : Gt) (e0 e01 : Nat) (sz : Nat) (xb : Nat → Int32) (xl : Int32) (xf : Int32) (xg : Int32) (xa : Int32) (xt : Int32) (xr : Int32) (xn : Int32) (x : Int32) (y : Int64) (B : Nat → Int) (L : Nat) (nq : Nat) (hp : CX B L xb xl ∧ x = nI nq ∧ 1 ≤ nq ∧ nq ≤ 8 ∧ L + nq ≤ 400) : MetV l yX5_append wsX5_append 0 0 G [.ref e0, .int x, .long y] [(e0, .inr (5, [.ref e01, .int xl, .int xf, .int xg, .int xa, .int xt, .int xr, .int xn])), aB G e01 400 xb] sz (fun (u : (Nat → Int32) × (Int32)) => CX (fdB B L nq y) (L + nq) u.1 u.2) (fun (u : (Nat → Int32) × (Int32)) => [(e0, .inr (5, [.ref e01, .int u.2, .int xf, .int xg, .int xa, .int xt, .int xr, .int xn])), aB G e01 400 u.1]) :=
  c_X5_append l G e0 e01 sz xb xl xf xg xa xt xr xn x y B L nq (v_X5_append l G e0 e01 sz xb xl xf xg xa xt xr xn x y B L nq hp)

set_option maxHeartbeats 4000000 in
set_option maxRecDepth 100000 in
theorem c_X5_skipBlanks (l : Launch) (G : Gt) (e0 e01 : Nat) (sz : Nat) (xb : Nat → Int32) (xl : Int32) (xf : Int32) (xg : Int32) (xa : Int32) (xt : Int32) (xr : Int32) (xn : Int32) (B : Nat → Int) (L : Nat) (aq : Nat) (hv : ∃ (I0_2 : Int32 → Prop) (μ0_3 : Int32 → Nat), I0_2 xa ∧ (∀ (ge04_1 : Int32), I0_2 ge04_1 → (xl ≤ ge04_1 → ge04_1 = nI (sk B L aq)) ∧ (¬ (xl ≤ ge04_1) → (vp_in ge04_1 400) ∧ ((¬ (xb ge04_1.toNatClampNeg) = 32 → ge04_1 = nI (sk B L aq)) ∧ ((xb ge04_1.toNatClampNeg) = 32 → I0_2 (ge04_1 + 1) ∧ μ0_3 (ge04_1 + 1) < μ0_3 ge04_1))))) : MetV l yX5_skipBlanks wsX5_skipBlanks 0 0 G [.ref e0] [(e0, .inr (5, [.ref e01, .int xl, .int xf, .int xg, .int xa, .int xt, .int xr, .int xn])), aB G e01 400 xb] sz (fun (u : (Int32)) => u = nI (sk B L aq)) (fun (u : (Int32)) => [(e0, .inr (5, [.ref e01, .int xl, .int xf, .int xg, .int u, .int xt, .int xr, .int xn])), aB G e01 400 xb]) := by
  refine x_startV (cc := cX5_skipBlanks) (maxL := 1) (ret := none) (by decide) rfl (Nat.le_of_ble_eq_true rfl) ?_
  intro p e s m args below meth c A R Q ls hRf hRl hQ C hP hD hS hA hSS hl
  obtain ⟨hx, hb, hr, hml, hown, hts, hlocks, hKK⟩ := C
  have hown : s.vm.findClass RX5 = some m.cls := hown
  have hl : lv_has ls 1 [(0, .ref e0)] := hl
  have hinX5 : ∀ w ∈ u_ws RX5 TX5 8, w ∈ wsX5_skipBlanks := by decide +kernel
  have kl19 := hts (.fieldLink RX5 19 "WarmStones$Text" "length" "I") (by decide +kernel)
  have kl22 := hts (.fieldLink RX5 22 "WarmStones$Text" "at" "I") (by decide +kernel)
  have kl9 := hts (.fieldLink RX5 9 "WarmStones$Text" "bytes" "[B") (by decide +kernel)
  obtain ⟨I0_2, μ0_3, hi0, hs_8⟩ := hv
  have Lm_10 : ∀ (n_9 : Nat) (ge04_1 : Int32) (H : Heap) (locs : List Loc) (ls : Array Slot), μ0_3 ge04_1 < n_9 → I0_2 ge04_1 → va_P G.1 vwCl [(e0, .inr (5, [.ref e01, .int xl, .int xf, .int xg, .int ge04_1, .int xt, .int xr, .int xn])), aB G e01 400 xb] H → va_D A [(e0, .inr (5, [.ref e01, .int xl, .int xf, .int xg, .int ge04_1, .int xt, .int xr, .int xn])), aB G e01 400 xb] → va_S A s.heap H locs → lv_has ls 1 [(0, .ref e0)] → W p l e R s m args below meth c H locs 0 0 Q (F0 m 0 ls []) := by
    intro n_9
    induction n_9 with
    | zero => intro ge04_1 H locs ls hm; exact absurd hm (Nat.not_lt_zero _)
    | succ n_9 ih_4 =>
      intro ge04_1 H locs ls hI_5 hi hP hD hS hl
      have hv := hs_8 ge04_1 hi
      refine lv_aload_n hx hb dX5_skipBlanks_0 rfl (lv_at hl 0 rfl) ?_
      refine va_get (D := G.1) (ci := 5) (v := .int ge04_1) (C := RX5) (T := TX5) (N := 8) hx hb hts hinX5 hown hKK.1 hP 0 rfl rfl 4 (by decide) kl22 (fun _ h9 => h9) rfl dX5_skipBlanks_1 ?_
      refine lv_aload_n hx hb dX5_skipBlanks_4 rfl (lv_at hl 0 rfl) ?_
      refine va_get (D := G.1) (ci := 5) (v := .int xl) (C := RX5) (T := TX5) (N := 8) hx hb hts hinX5 hown hKK.1 hP 0 rfl rfl 1 (by decide) kl19 (fun _ h9 => h9) rfl dX5_skipBlanks_5 ?_
      refine lv_icmp_ge (tgt := 38) hx hb dX5_skipBlanks_8 (by decide) (fun hc_6 => ?_) (fun hc_6 => ?_)
      · have hv := hv.1 hc_6
        exact x_vret ge04_1 hQ hx hb hr hlocks hS dX5_skipBlanks_38 hv hP hD
      · have hv := hv.2 hc_6
        refine lv_aload_n hx hb dX5_skipBlanks_11 rfl (lv_at hl 0 rfl) ?_
        refine va_get (D := G.1) (ci := 5) (v := .ref e01) (C := RX5) (T := TX5) (N := 8) hx hb hts hinX5 hown hKK.1 hP 0 rfl rfl 0 (by decide) kl9 (fun _ h9 => h9) rfl dX5_skipBlanks_12 ?_
        refine lv_aload_n hx hb dX5_skipBlanks_15 rfl (lv_at hl 0 rfl) ?_
        refine va_get (D := G.1) (ci := 5) (v := .int ge04_1) (C := RX5) (T := TX5) (N := 8) hx hb hts hinX5 hown hKK.1 hP 0 rfl rfl 4 (by decide) kl22 (fun _ h9 => h9) rfl dX5_skipBlanks_16 ?_
        obtain ⟨hin, hv⟩ := hv
        refine va_bald hx hb hKK.1 hP 1 1 rfl rfl hin dX5_skipBlanks_19 ?_
        refine lv_bipush (v := 32) hx hb dX5_skipBlanks_20 (by decide) ?_
        refine lv_icmp_ne (tgt := 38) hx hb dX5_skipBlanks_22 (by decide) (fun hc_7 => ?_) (fun hc_7 => ?_)
        · have hv := hv.1 hc_7
          exact x_vret ge04_1 hQ hx hb hr hlocks hS dX5_skipBlanks_38 hv hP hD
        · have hv := hv.2 hc_7
          refine lv_aload_n hx hb dX5_skipBlanks_25 rfl (lv_at hl 0 rfl) ?_
          refine lv_dup hx hb dX5_skipBlanks_26 rfl ?_
          refine va_get (D := G.1) (ci := 5) (v := .int ge04_1) (C := RX5) (T := TX5) (N := 8) hx hb hts hinX5 hown hKK.1 hP 0 rfl rfl 4 (by decide) kl22 (fun _ h9 => h9) rfl dX5_skipBlanks_27 ?_
          refine lv_iconst (v := 1) hx hb dX5_skipBlanks_30 (by decide) ?_
          refine lv_iadd hx hb dX5_skipBlanks_31 ?_
          refine va_put (D := G.1) (ci := 5) (v := .int (ge04_1 + 1)) (ty := .int) (C := RX5) (T := TX5) (N := 8) hx hb hts hinX5 tyX5 tyX5_ok nmX5 hown hKK.1 hP hD hS 0 rfl rfl 4 (by decide) kl22 (fun _ h9 => h9) rfl (by decide +kernel) rfl rfl (Nat.le_of_ble_eq_true rfl) dX5_skipBlanks_32 (fun H locs hP hD hS => ?_)
          have hP : va_P G.1 vwCl [(e0, .inr (5, [.ref e01, .int xl, .int xf, .int xg, .int (ge04_1 + 1), .int xt, .int xr, .int xn])), aB G e01 400 xb] H := hP
          have hD : va_D A [(e0, .inr (5, [.ref e01, .int xl, .int xf, .int xg, .int (ge04_1 + 1), .int xt, .int xr, .int xn])), aB G e01 400 xb] := hD
          refine lv_goto (tgt := 0) hx hb dX5_skipBlanks_35 (by decide) ?_
          exact ih_4 _ _ _ _ (Nat.lt_of_lt_of_le hv.2 (Nat.le_of_lt_succ hI_5)) hv.1 hP hD hS hl
  exact Lm_10 _ _ _ _ _ (Nat.lt_succ_self _) hi0 hP hD hS hl
theorem v_X5_skipBlanks (l : Launch) (G : Gt) (e0 e01 : Nat) (sz : Nat) (xb : Nat → Int32) (xl : Int32) (xf : Int32) (xg : Int32) (xa : Int32) (xt : Int32) (xr : Int32) (xn : Int32) (B : Nat → Int) (L : Nat) (aq : Nat) (hp : CX B L xb xl ∧ xa = nI aq ∧ aq ≤ L) : ∃ (I0_2 : Int32 → Prop) (μ0_3 : Int32 → Nat), I0_2 xa ∧ (∀ (ge04_1 : Int32), I0_2 ge04_1 → (xl ≤ ge04_1 → ge04_1 = nI (sk B L aq)) ∧ (¬ (xl ≤ ge04_1) → (vp_in ge04_1 400) ∧ ((¬ (xb ge04_1.toNatClampNeg) = 32 → ge04_1 = nI (sk B L aq)) ∧ ((xb ge04_1.toNatClampNeg) = 32 → I0_2 (ge04_1 + 1) ∧ μ0_3 (ge04_1 + 1) < μ0_3 ge04_1)))) := by
  obtain ⟨hX, rfl, ha⟩ := hp
  have hL := hX.1
  have hxl := hX.2.1
  refine ⟨fun z => ∃ a, z = nI a ∧ a ≤ L ∧ sk B L a = sk B L aq, fun z => 401 - z.toNatClampNeg, ⟨aq, rfl, ha, rfl⟩, ?_⟩
  rintro z ⟨a, rfl, haL, hs⟩
  have ea : (nI a).toNatClampNeg = a := nI_clamp (by omega)
  have ea1 : nI a + 1 = nI (a + 1) := nI_1 a
  have ea2 : (nI (a + 1)).toNatClampNeg = a + 1 := nI_clamp (by omega)
  have hle : nI L ≤ nI a ↔ L ≤ a := nI_leI (by omega) (by omega)
  simp only [ea, ea1, ea2, hxl, hle]
  have stop : ¬ (a < L ∧ isBl B a = true) → nI a = nI (sk B L aq) := fun h => by rw [← hs]; unfold sk; rw [run_end h]
  refine ⟨fun q => stop (fun z => absurd z.1 (by omega)), fun q => ?_⟩
  have hb := hX.is (i := a) (by omega) 32 (by decide) (by decide)
  refine ⟨vp_in_nI (by omega) (by omega), fun h => stop (fun z => h (hb.mpr (of_decide_eq_true z.2))), fun h => ⟨⟨a + 1, rfl, by omega, ?_⟩, by omega⟩⟩
  rw [← hs]
  exact run_go (by omega) (decide_eq_true (hb.mp h))
theorem k_X5_skipBlanks (l : Launch) (G : Gt) (e0 e01 : Nat) (sz : Nat) (xb : Nat → Int32) (xl : Int32) (xf : Int32) (xg : Int32) (xa : Int32) (xt : Int32) (xr : Int32) (xn : Int32) (B : Nat → Int) (L : Nat) (aq : Nat) (hp : CX B L xb xl ∧ xa = nI aq ∧ aq ≤ L) : MetV l yX5_skipBlanks wsX5_skipBlanks 0 0 G [.ref e0] [(e0, .inr (5, [.ref e01, .int xl, .int xf, .int xg, .int xa, .int xt, .int xr, .int xn])), aB G e01 400 xb] sz (fun (u : (Int32)) => u = nI (sk B L aq)) (fun (u : (Int32)) => [(e0, .inr (5, [.ref e01, .int xl, .int xf, .int xg, .int u, .int xt, .int xr, .int xn])), aB G e01 400 xb]) :=
  c_X5_skipBlanks l G e0 e01 sz xb xl xf xg xa xt xr xn B L aq (v_X5_skipBlanks l G e0 e01 sz xb xl xf xg xa xt xr xn B L aq hp)

set_option maxHeartbeats 4000000 in
set_option maxRecDepth 100000 in
theorem c_X5_hasMore (l : Launch) (G : Gt) (e0 e01 : Nat) (sz : Nat) (xb : Nat → Int32) (xl : Int32) (xf : Int32) (xg : Int32) (xa : Int32) (xt : Int32) (xr : Int32) (xn : Int32) (B : Nat → Int) (L : Nat) (aq : Nat) (hv : ∃ (gB_1 : Nat → Int) (gL_2 : Nat) (gaq_3 : Nat), ((CX gB_1 gL_2 xb xl ∧ xa = nI gaq_3 ∧ gaq_3 ≤ gL_2) ∧ (∀ (xa2_5 : Int32), (xa2_5 = nI (sk gB_1 gL_2 gaq_3)) → ((¬ xg = 0 → (0 : Int32) = (if xg = 0 ∧ sk B L aq < L then 1 else 0) ∧ xa2_5 = nI (sk B L aq)) ∧ (xg = 0 → (xl ≤ xa2_5 → (0 : Int32) = (if xg = 0 ∧ sk B L aq < L then 1 else 0) ∧ xa2_5 = nI (sk B L aq)) ∧ (¬ (xl ≤ xa2_5) → (1 : Int32) = (if xg = 0 ∧ sk B L aq < L then 1 else 0) ∧ xa2_5 = nI (sk B L aq))))))) : MetI l yX5_hasMore wsX5_hasMore 1 20 G [.ref e0] [(e0, .inr (5, [.ref e01, .int xl, .int xf, .int xg, .int xa, .int xt, .int xr, .int xn])), aB G e01 400 xb] sz (fun (r : Int32) (u : (Int32)) => r = (if xg = 0 ∧ sk B L aq < L then 1 else 0) ∧ u = nI (sk B L aq)) (fun (u : (Int32)) => [(e0, .inr (5, [.ref e01, .int xl, .int xf, .int xg, .int u, .int xt, .int xr, .int xn])), aB G e01 400 xb]) := by
  refine x_startI (cc := cX5_hasMore) (maxL := 1) (ret := (some .boolean)) (by decide) rfl (Nat.le_of_ble_eq_true rfl) ?_
  intro p e s m args below meth c A R Q ls hRf hRl hQ C hP hD hS hA hSS hl
  obtain ⟨hx, hb, hr, hml, hown, hts, hlocks, hKK⟩ := C
  have hown : s.vm.findClass RX5 = some m.cls := hown
  have hl : lv_has ls 1 [(0, .ref e0)] := hl
  have hinX5 : ∀ w ∈ u_ws RX5 TX5 8, w ∈ wsX5_hasMore := by decide +kernel
  have kl19 := hts (.fieldLink RX5 19 "WarmStones$Text" "length" "I") (by decide +kernel)
  have kl22 := hts (.fieldLink RX5 22 "WarmStones$Text" "at" "I") (by decide +kernel)
  have kl25 := hts (.fieldLink RX5 25 "WarmStones$Text" "fault" "I") (by decide +kernel)
  refine lv_aload_n hx hb dX5_hasMore_0 rfl (lv_at hl 0 rfl) ?_
  obtain ⟨gB_1, gL_2, gaq_3, hv⟩ := hv
  obtain ⟨hp, hv⟩ := hv
  refine x_callv (wr := []) (w' := fun (u : (Int32)) => [(e0, .inr (5, [.ref e01, .int xl, .int xf, .int xg, .int u, .int xt, .int xr, .int xn])), aB G e01 400 xb]) (x_runV (As := []) (rest := []) (n := 0) (C := RX5) (ci := 5) ⟨hx, hb, hml, hown, hts⟩ (k_X5_skipBlanks l G e0 e01 _ xb xl xf xg xa xt xr xn gB_1 gL_2 gaq_3 hp) gX5_hasMore_X5_skipBlanks rfl (by decide +kernel) ⟨Nat.le_trans (Nat.le_of_ble_eq_true rfl) hRf, Nat.le_trans (Nat.le_of_ble_eq_true rfl) hRl⟩ hKK hSS hS hA hP hD [0, 1] (by decide) rfl rfl rfl 0 rfl rfl hl.1 rfl (Nat.le_of_ble_eq_true rfl) dX5_hasMore_1) hP hD hS hA [0, 1] [] [0, 1] rfl rfl (by decide) (by decide) (by decide) (fun _ => rfl) (fun  u H locs hw hP hD hS => ?_)
  obtain ⟨xa2_5, rfl⟩ : ∃ z9_, z9_ = u := ⟨_, rfl⟩
  have hP : va_P G.1 vwCl [(e0, .inr (5, [.ref e01, .int xl, .int xf, .int xg, .int xa2_5, .int xt, .int xr, .int xn])), aB G e01 400 xb] H := hP
  have hD : va_D A [(e0, .inr (5, [.ref e01, .int xl, .int xf, .int xg, .int xa2_5, .int xt, .int xr, .int xn])), aB G e01 400 xb] := hD
  have hv := hv xa2_5 hw
  refine lv_aload_n hx hb dX5_hasMore_4 rfl (lv_at hl 0 rfl) ?_
  refine va_get (D := G.1) (ci := 5) (v := .int xg) (C := RX5) (T := TX5) (N := 8) hx hb hts hinX5 hown hKK.1 hP 0 rfl rfl 3 (by decide) kl25 (fun _ h9 => h9) rfl dX5_hasMore_5 ?_
  refine lv_if_ne (tgt := 26) hx hb dX5_hasMore_8 (by decide) (fun hc_6 => ?_) (fun hc_6 => ?_)
  · have hv := hv.1 hc_6
    refine lv_iconst (v := 0) hx hb dX5_hasMore_26 (by decide) ?_
    exact x_zret (v := 0) xa2_5 hQ hx hb hr hlocks hS dX5_hasMore_27 rfl hv hP hD
  · have hv := hv.2 hc_6
    refine lv_aload_n hx hb dX5_hasMore_11 rfl (lv_at hl 0 rfl) ?_
    refine va_get (D := G.1) (ci := 5) (v := .int xa2_5) (C := RX5) (T := TX5) (N := 8) hx hb hts hinX5 hown hKK.1 hP 0 rfl rfl 4 (by decide) kl22 (fun _ h9 => h9) rfl dX5_hasMore_12 ?_
    refine lv_aload_n hx hb dX5_hasMore_15 rfl (lv_at hl 0 rfl) ?_
    refine va_get (D := G.1) (ci := 5) (v := .int xl) (C := RX5) (T := TX5) (N := 8) hx hb hts hinX5 hown hKK.1 hP 0 rfl rfl 1 (by decide) kl19 (fun _ h9 => h9) rfl dX5_hasMore_16 ?_
    refine lv_icmp_ge (tgt := 26) hx hb dX5_hasMore_19 (by decide) (fun hc_7 => ?_) (fun hc_7 => ?_)
    · have hv := hv.1 hc_7
      refine lv_iconst (v := 0) hx hb dX5_hasMore_26 (by decide) ?_
      exact x_zret (v := 0) xa2_5 hQ hx hb hr hlocks hS dX5_hasMore_27 rfl hv hP hD
    · have hv := hv.2 hc_7
      refine lv_iconst (v := 1) hx hb dX5_hasMore_22 (by decide) ?_
      refine lv_goto (tgt := 27) hx hb dX5_hasMore_23 (by decide) ?_
      exact x_zret (v := 1) xa2_5 hQ hx hb hr hlocks hS dX5_hasMore_27 rfl hv hP hD
theorem v_X5_hasMore (l : Launch) (G : Gt) (e0 e01 : Nat) (sz : Nat) (xb : Nat → Int32) (xl : Int32) (xf : Int32) (xg : Int32) (xa : Int32) (xt : Int32) (xr : Int32) (xn : Int32) (B : Nat → Int) (L : Nat) (aq : Nat) (hp : CX B L xb xl ∧ xa = nI aq ∧ aq ≤ L) : ∃ (gB_1 : Nat → Int) (gL_2 : Nat) (gaq_3 : Nat), ((CX gB_1 gL_2 xb xl ∧ xa = nI gaq_3 ∧ gaq_3 ≤ gL_2) ∧ (∀ (xa2_5 : Int32), (xa2_5 = nI (sk gB_1 gL_2 gaq_3)) → ((¬ xg = 0 → (0 : Int32) = (if xg = 0 ∧ sk B L aq < L then 1 else 0) ∧ xa2_5 = nI (sk B L aq)) ∧ (xg = 0 → (xl ≤ xa2_5 → (0 : Int32) = (if xg = 0 ∧ sk B L aq < L then 1 else 0) ∧ xa2_5 = nI (sk B L aq)) ∧ (¬ (xl ≤ xa2_5) → (1 : Int32) = (if xg = 0 ∧ sk B L aq < L then 1 else 0) ∧ xa2_5 = nI (sk B L aq)))))) := by
  obtain ⟨hX, rfl, ha⟩ := hp
  have hL := hX.1
  have hxl := hX.2.1
  have hs := sk_L (B := B) ha
  refine ⟨B, L, aq, ⟨hX, rfl, ha⟩, fun z hz => ?_⟩
  subst hz
  have hle : nI L ≤ nI (sk B L aq) ↔ L ≤ sk B L aq := nI_leI (by omega) (by omega)
  rw [hxl, hle]
  exact ⟨fun h => ⟨by rw [if_neg (fun z => h z.1)], rfl⟩, fun h => ⟨fun h2 => ⟨by rw [if_neg (fun z => by omega)], rfl⟩, fun h2 => ⟨by rw [if_pos ⟨h, by omega⟩], rfl⟩⟩⟩
theorem k_X5_hasMore (l : Launch) (G : Gt) (e0 e01 : Nat) (sz : Nat) (xb : Nat → Int32) (xl : Int32) (xf : Int32) (xg : Int32) (xa : Int32) (xt : Int32) (xr : Int32) (xn : Int32) (B : Nat → Int) (L : Nat) (aq : Nat) (hp : CX B L xb xl ∧ xa = nI aq ∧ aq ≤ L) : MetI l yX5_hasMore wsX5_hasMore 1 20 G [.ref e0] [(e0, .inr (5, [.ref e01, .int xl, .int xf, .int xg, .int xa, .int xt, .int xr, .int xn])), aB G e01 400 xb] sz (fun (r : Int32) (u : (Int32)) => r = (if xg = 0 ∧ sk B L aq < L then 1 else 0) ∧ u = nI (sk B L aq)) (fun (u : (Int32)) => [(e0, .inr (5, [.ref e01, .int xl, .int xf, .int xg, .int u, .int xt, .int xr, .int xn])), aB G e01 400 xb]) :=
  c_X5_hasMore l G e0 e01 sz xb xl xf xg xa xt xr xn B L aq (v_X5_hasMore l G e0 e01 sz xb xl xf xg xa xt xr xn B L aq hp)

set_option maxHeartbeats 4000000 in
set_option maxRecDepth 100000 in
theorem c_X5_fail (l : Launch) (G : Gt) (e0 e01 : Nat) (sz : Nat) (xb : Nat → Int32) (xl : Int32) (xf : Int32) (xg : Int32) (xa : Int32) (xt : Int32) (xr : Int32) (xn : Int32) (x : Int32) (hv : (¬ xg = 0 → (xg : Int32) = (if xg = 0 then x else xg) ∧ (xf : Int32) = (if xg = 0 then xt else xf)) ∧ (xg = 0 → (x : Int32) = (if xg = 0 then x else xg) ∧ (xt : Int32) = (if xg = 0 then xt else xf))) : MetV l yX5_fail wsX5_fail 0 0 G [.ref e0, .int x] [(e0, .inr (5, [.ref e01, .int xl, .int xf, .int xg, .int xa, .int xt, .int xr, .int xn])), aB G e01 400 xb] sz (fun (u : (Int32) × (Int32)) => (u.1 : Int32) = (if xg = 0 then x else xg) ∧ (u.2 : Int32) = (if xg = 0 then xt else xf)) (fun (u : (Int32) × (Int32)) => [(e0, .inr (5, [.ref e01, .int xl, .int u.2, .int u.1, .int xa, .int xt, .int xr, .int xn])), aB G e01 400 xb]) := by
  refine x_startV (cc := cX5_fail) (maxL := 2) (ret := none) (by decide) rfl (Nat.le_of_ble_eq_true rfl) ?_
  intro p e s m args below meth c A R Q ls hRf hRl hQ C hP hD hS hA hSS hl
  obtain ⟨hx, hb, hr, hml, hown, hts, hlocks, hKK⟩ := C
  have hown : s.vm.findClass RX5 = some m.cls := hown
  have hl : lv_has ls 2 [(0, .ref e0), (1, .int x)] := hl
  have hinX5 : ∀ w ∈ u_ws RX5 TX5 8, w ∈ wsX5_fail := by decide +kernel
  have kl124 := hts (.fieldLink RX5 124 "WarmStones$Text" "tokenAt" "I") (by decide +kernel)
  have kl15 := hts (.fieldLink RX5 15 "WarmStones$Text" "faultByte" "I") (by decide +kernel)
  have kl25 := hts (.fieldLink RX5 25 "WarmStones$Text" "fault" "I") (by decide +kernel)
  refine lv_aload_n hx hb dX5_fail_0 rfl (lv_at hl 0 rfl) ?_
  refine va_get (D := G.1) (ci := 5) (v := .int xg) (C := RX5) (T := TX5) (N := 8) hx hb hts hinX5 hown hKK.1 hP 0 rfl rfl 3 (by decide) kl25 (fun _ h9 => h9) rfl dX5_fail_1 ?_
  refine lv_if_ne (tgt := 20) hx hb dX5_fail_4 (by decide) (fun hc_1 => ?_) (fun hc_1 => ?_)
  · have hv := hv.1 hc_1
    exact x_vret (xg, xf) hQ hx hb hr hlocks hS dX5_fail_20 hv hP hD
  · have hv := hv.2 hc_1
    refine lv_aload_n hx hb dX5_fail_7 rfl (lv_at hl 0 rfl) ?_
    refine lv_iload_n hx hb dX5_fail_8 rfl (lv_at hl 1 rfl) ?_
    refine va_put (D := G.1) (ci := 5) (v := .int x) (ty := .int) (C := RX5) (T := TX5) (N := 8) hx hb hts hinX5 tyX5 tyX5_ok nmX5 hown hKK.1 hP hD hS 0 rfl rfl 3 (by decide) kl25 (fun _ h9 => h9) rfl (by decide +kernel) rfl rfl (Nat.le_of_ble_eq_true rfl) dX5_fail_9 (fun H locs hP hD hS => ?_)
    have hP : va_P G.1 vwCl [(e0, .inr (5, [.ref e01, .int xl, .int xf, .int x, .int xa, .int xt, .int xr, .int xn])), aB G e01 400 xb] H := hP
    have hD : va_D A [(e0, .inr (5, [.ref e01, .int xl, .int xf, .int x, .int xa, .int xt, .int xr, .int xn])), aB G e01 400 xb] := hD
    refine lv_aload_n hx hb dX5_fail_12 rfl (lv_at hl 0 rfl) ?_
    refine lv_aload_n hx hb dX5_fail_13 rfl (lv_at hl 0 rfl) ?_
    refine va_get (D := G.1) (ci := 5) (v := .int xt) (C := RX5) (T := TX5) (N := 8) hx hb hts hinX5 hown hKK.1 hP 0 rfl rfl 5 (by decide) kl124 (fun _ h9 => h9) rfl dX5_fail_14 ?_
    refine va_put (D := G.1) (ci := 5) (v := .int xt) (ty := .int) (C := RX5) (T := TX5) (N := 8) hx hb hts hinX5 tyX5 tyX5_ok nmX5 hown hKK.1 hP hD hS 0 rfl rfl 2 (by decide) kl15 (fun _ h9 => h9) rfl (by decide +kernel) rfl rfl (Nat.le_of_ble_eq_true rfl) dX5_fail_17 (fun H locs hP hD hS => ?_)
    have hP : va_P G.1 vwCl [(e0, .inr (5, [.ref e01, .int xl, .int xt, .int x, .int xa, .int xt, .int xr, .int xn])), aB G e01 400 xb] H := hP
    have hD : va_D A [(e0, .inr (5, [.ref e01, .int xl, .int xt, .int x, .int xa, .int xt, .int xr, .int xn])), aB G e01 400 xb] := hD
    exact x_vret (x, xt) hQ hx hb hr hlocks hS dX5_fail_20 hv hP hD
theorem v_X5_fail (l : Launch) (G : Gt) (e0 e01 : Nat) (sz : Nat) (xb : Nat → Int32) (xl : Int32) (xf : Int32) (xg : Int32) (xa : Int32) (xt : Int32) (xr : Int32) (xn : Int32) (x : Int32) : (¬ xg = 0 → (xg : Int32) = (if xg = 0 then x else xg) ∧ (xf : Int32) = (if xg = 0 then xt else xf)) ∧ (xg = 0 → (x : Int32) = (if xg = 0 then x else xg) ∧ (xt : Int32) = (if xg = 0 then xt else xf)) := by
  exact ⟨fun h => ⟨by rw [if_neg h], by rw [if_neg h]⟩, fun h => ⟨by rw [if_pos h], by rw [if_pos h]⟩⟩
theorem k_X5_fail (l : Launch) (G : Gt) (e0 e01 : Nat) (sz : Nat) (xb : Nat → Int32) (xl : Int32) (xf : Int32) (xg : Int32) (xa : Int32) (xt : Int32) (xr : Int32) (xn : Int32) (x : Int32) : MetV l yX5_fail wsX5_fail 0 0 G [.ref e0, .int x] [(e0, .inr (5, [.ref e01, .int xl, .int xf, .int xg, .int xa, .int xt, .int xr, .int xn])), aB G e01 400 xb] sz (fun (u : (Int32) × (Int32)) => (u.1 : Int32) = (if xg = 0 then x else xg) ∧ (u.2 : Int32) = (if xg = 0 then xt else xf)) (fun (u : (Int32) × (Int32)) => [(e0, .inr (5, [.ref e01, .int xl, .int u.2, .int u.1, .int xa, .int xt, .int xr, .int xn])), aB G e01 400 xb]) :=
  c_X5_fail l G e0 e01 sz xb xl xf xg xa xt xr xn x (v_X5_fail l G e0 e01 sz xb xl xf xg xa xt xr xn x)

set_option maxHeartbeats 4000000 in
set_option maxRecDepth 100000 in
theorem c_X5_readWord (l : Launch) (G : Gt) (e0 e01 : Nat) (sz : Nat) (xb : Nat → Int32) (xl : Int32) (xf : Int32) (xg : Int32) (xa : Int32) (xt : Int32) (xr : Int32) (xn : Int32) (B : Nat → Int) (L : Nat) (aq : Nat) (hv : ∃ (gB_1 : Nat → Int) (gL_2 : Nat) (gaq_3 : Nat), ((CX gB_1 gL_2 xb xl ∧ xa = nI gaq_3 ∧ gaq_3 ≤ gL_2) ∧ (∀ (xa2_5 : Int32), (xa2_5 = nI (sk gB_1 gL_2 gaq_3)) → (∃ (I12_7 : Int32 → Prop) (μ12_8 : Int32 → Nat), I12_7 xa2_5 ∧ (∀ (ge04_6 : Int32), I12_7 ge04_6 → (xl ≤ ge04_6 → xa2_5 = nI (sk B L aq) ∧ ge04_6 = nI (wE B L (sk B L aq))) ∧ (¬ (xl ≤ ge04_6) → (vp_in ge04_6 400) ∧ (((xb ge04_6.toNatClampNeg) < 97 → xa2_5 = nI (sk B L aq) ∧ ge04_6 = nI (wE B L (sk B L aq))) ∧ (¬ ((xb ge04_6.toNatClampNeg) < 97) → (vp_in ge04_6 400) ∧ ((122 < (xb ge04_6.toNatClampNeg) → xa2_5 = nI (sk B L aq) ∧ ge04_6 = nI (wE B L (sk B L aq))) ∧ (¬ (122 < (xb ge04_6.toNatClampNeg)) → I12_7 (ge04_6 + 1) ∧ μ12_8 (ge04_6 + 1) < μ12_8 ge04_6)))))))))) : MetV l yX5_readWord wsX5_readWord 1 20 G [.ref e0] [(e0, .inr (5, [.ref e01, .int xl, .int xf, .int xg, .int xa, .int xt, .int xr, .int xn])), aB G e01 400 xb] sz (fun (u : (Int32) × (Int32)) => u.2 = nI (sk B L aq) ∧ u.1 = nI (wE B L (sk B L aq))) (fun (u : (Int32) × (Int32)) => [(e0, .inr (5, [.ref e01, .int xl, .int xf, .int xg, .int u.1, .int u.2, .int xr, .int xn])), aB G e01 400 xb]) := by
  refine x_startV (cc := cX5_readWord) (maxL := 1) (ret := none) (by decide) rfl (Nat.le_of_ble_eq_true rfl) ?_
  intro p e s m args below meth c A R Q ls hRf hRl hQ C hP hD hS hA hSS hl
  obtain ⟨hx, hb, hr, hml, hown, hts, hlocks, hKK⟩ := C
  have hown : s.vm.findClass RX5 = some m.cls := hown
  have hl : lv_has ls 1 [(0, .ref e0)] := hl
  have hinX5 : ∀ w ∈ u_ws RX5 TX5 8, w ∈ wsX5_readWord := by decide +kernel
  have kl124 := hts (.fieldLink RX5 124 "WarmStones$Text" "tokenAt" "I") (by decide +kernel)
  have kl19 := hts (.fieldLink RX5 19 "WarmStones$Text" "length" "I") (by decide +kernel)
  have kl22 := hts (.fieldLink RX5 22 "WarmStones$Text" "at" "I") (by decide +kernel)
  have kl9 := hts (.fieldLink RX5 9 "WarmStones$Text" "bytes" "[B") (by decide +kernel)
  refine lv_aload_n hx hb dX5_readWord_0 rfl (lv_at hl 0 rfl) ?_
  obtain ⟨gB_1, gL_2, gaq_3, hv⟩ := hv
  obtain ⟨hp, hv⟩ := hv
  refine x_callv (wr := []) (w' := fun (u : (Int32)) => [(e0, .inr (5, [.ref e01, .int xl, .int xf, .int xg, .int u, .int xt, .int xr, .int xn])), aB G e01 400 xb]) (x_runV (As := []) (rest := []) (n := 0) (C := RX5) (ci := 5) ⟨hx, hb, hml, hown, hts⟩ (k_X5_skipBlanks l G e0 e01 _ xb xl xf xg xa xt xr xn gB_1 gL_2 gaq_3 hp) gX5_readWord_X5_skipBlanks rfl (by decide +kernel) ⟨Nat.le_trans (Nat.le_of_ble_eq_true rfl) hRf, Nat.le_trans (Nat.le_of_ble_eq_true rfl) hRl⟩ hKK hSS hS hA hP hD [0, 1] (by decide) rfl rfl rfl 0 rfl rfl hl.1 rfl (Nat.le_of_ble_eq_true rfl) dX5_readWord_1) hP hD hS hA [0, 1] [] [0, 1] rfl rfl (by decide) (by decide) (by decide) (fun _ => rfl) (fun  u H locs hw hP hD hS => ?_)
  obtain ⟨xa2_5, rfl⟩ : ∃ z9_, z9_ = u := ⟨_, rfl⟩
  have hP : va_P G.1 vwCl [(e0, .inr (5, [.ref e01, .int xl, .int xf, .int xg, .int xa2_5, .int xt, .int xr, .int xn])), aB G e01 400 xb] H := hP
  have hD : va_D A [(e0, .inr (5, [.ref e01, .int xl, .int xf, .int xg, .int xa2_5, .int xt, .int xr, .int xn])), aB G e01 400 xb] := hD
  have hv := hv xa2_5 hw
  refine lv_aload_n hx hb dX5_readWord_4 rfl (lv_at hl 0 rfl) ?_
  refine lv_aload_n hx hb dX5_readWord_5 rfl (lv_at hl 0 rfl) ?_
  refine va_get (D := G.1) (ci := 5) (v := .int xa2_5) (C := RX5) (T := TX5) (N := 8) hx hb hts hinX5 hown hKK.1 hP 0 rfl rfl 4 (by decide) kl22 (fun _ h9 => h9) rfl dX5_readWord_6 ?_
  refine va_put (D := G.1) (ci := 5) (v := .int xa2_5) (ty := .int) (C := RX5) (T := TX5) (N := 8) hx hb hts hinX5 tyX5 tyX5_ok nmX5 hown hKK.1 hP hD hS 0 rfl rfl 5 (by decide) kl124 (fun _ h9 => h9) rfl (by decide +kernel) rfl rfl (Nat.le_of_ble_eq_true rfl) dX5_readWord_9 (fun H locs hP hD hS => ?_)
  have hP : va_P G.1 vwCl [(e0, .inr (5, [.ref e01, .int xl, .int xf, .int xg, .int xa2_5, .int xa2_5, .int xr, .int xn])), aB G e01 400 xb] H := hP
  have hD : va_D A [(e0, .inr (5, [.ref e01, .int xl, .int xf, .int xg, .int xa2_5, .int xa2_5, .int xr, .int xn])), aB G e01 400 xb] := hD
  obtain ⟨I12_7, μ12_8, hi0, hs_14⟩ := hv
  have Lm_16 : ∀ (n_15 : Nat) (ge04_6 : Int32) (H : Heap) (locs : List Loc) (ls : Array Slot), μ12_8 ge04_6 < n_15 → I12_7 ge04_6 → va_P G.1 vwCl [(e0, .inr (5, [.ref e01, .int xl, .int xf, .int xg, .int ge04_6, .int xa2_5, .int xr, .int xn])), aB G e01 400 xb] H → va_D A [(e0, .inr (5, [.ref e01, .int xl, .int xf, .int xg, .int ge04_6, .int xa2_5, .int xr, .int xn])), aB G e01 400 xb] → va_S A s.heap H locs → lv_has ls 1 [(0, .ref e0)] → W p l e R s m args below meth c H locs 0 0 Q (F0 m 12 ls []) := by
    intro n_15
    induction n_15 with
    | zero => intro ge04_6 H locs ls hm; exact absurd hm (Nat.not_lt_zero _)
    | succ n_15 ih_9 =>
      intro ge04_6 H locs ls hI_10 hi hP hD hS hl
      have hv := hs_14 ge04_6 hi
      refine lv_aload_n hx hb dX5_readWord_12 rfl (lv_at hl 0 rfl) ?_
      refine va_get (D := G.1) (ci := 5) (v := .int ge04_6) (C := RX5) (T := TX5) (N := 8) hx hb hts hinX5 hown hKK.1 hP 0 rfl rfl 4 (by decide) kl22 (fun _ h9 => h9) rfl dX5_readWord_13 ?_
      refine lv_aload_n hx hb dX5_readWord_16 rfl (lv_at hl 0 rfl) ?_
      refine va_get (D := G.1) (ci := 5) (v := .int xl) (C := RX5) (T := TX5) (N := 8) hx hb hts hinX5 hown hKK.1 hP 0 rfl rfl 1 (by decide) kl19 (fun _ h9 => h9) rfl dX5_readWord_17 ?_
      refine lv_icmp_ge (tgt := 64) hx hb dX5_readWord_20 (by decide) (fun hc_11 => ?_) (fun hc_11 => ?_)
      · have hv := hv.1 hc_11
        exact x_vret (ge04_6, xa2_5) hQ hx hb hr hlocks hS dX5_readWord_64 hv hP hD
      · have hv := hv.2 hc_11
        refine lv_aload_n hx hb dX5_readWord_23 rfl (lv_at hl 0 rfl) ?_
        refine va_get (D := G.1) (ci := 5) (v := .ref e01) (C := RX5) (T := TX5) (N := 8) hx hb hts hinX5 hown hKK.1 hP 0 rfl rfl 0 (by decide) kl9 (fun _ h9 => h9) rfl dX5_readWord_24 ?_
        refine lv_aload_n hx hb dX5_readWord_27 rfl (lv_at hl 0 rfl) ?_
        refine va_get (D := G.1) (ci := 5) (v := .int ge04_6) (C := RX5) (T := TX5) (N := 8) hx hb hts hinX5 hown hKK.1 hP 0 rfl rfl 4 (by decide) kl22 (fun _ h9 => h9) rfl dX5_readWord_28 ?_
        obtain ⟨hin, hv⟩ := hv
        refine va_bald hx hb hKK.1 hP 1 1 rfl rfl hin dX5_readWord_31 ?_
        refine lv_bipush (v := 97) hx hb dX5_readWord_32 (by decide) ?_
        refine lv_icmp_lt (tgt := 64) hx hb dX5_readWord_34 (by decide) (fun hc_12 => ?_) (fun hc_12 => ?_)
        · have hv := hv.1 hc_12
          exact x_vret (ge04_6, xa2_5) hQ hx hb hr hlocks hS dX5_readWord_64 hv hP hD
        · have hv := hv.2 hc_12
          refine lv_aload_n hx hb dX5_readWord_37 rfl (lv_at hl 0 rfl) ?_
          refine va_get (D := G.1) (ci := 5) (v := .ref e01) (C := RX5) (T := TX5) (N := 8) hx hb hts hinX5 hown hKK.1 hP 0 rfl rfl 0 (by decide) kl9 (fun _ h9 => h9) rfl dX5_readWord_38 ?_
          refine lv_aload_n hx hb dX5_readWord_41 rfl (lv_at hl 0 rfl) ?_
          refine va_get (D := G.1) (ci := 5) (v := .int ge04_6) (C := RX5) (T := TX5) (N := 8) hx hb hts hinX5 hown hKK.1 hP 0 rfl rfl 4 (by decide) kl22 (fun _ h9 => h9) rfl dX5_readWord_42 ?_
          obtain ⟨hin, hv⟩ := hv
          refine va_bald hx hb hKK.1 hP 1 1 rfl rfl hin dX5_readWord_45 ?_
          refine lv_bipush (v := 122) hx hb dX5_readWord_46 (by decide) ?_
          refine lv_icmp_gt (tgt := 64) hx hb dX5_readWord_48 (by decide) (fun hc_13 => ?_) (fun hc_13 => ?_)
          · have hv := hv.1 hc_13
            exact x_vret (ge04_6, xa2_5) hQ hx hb hr hlocks hS dX5_readWord_64 hv hP hD
          · have hv := hv.2 hc_13
            refine lv_aload_n hx hb dX5_readWord_51 rfl (lv_at hl 0 rfl) ?_
            refine lv_dup hx hb dX5_readWord_52 rfl ?_
            refine va_get (D := G.1) (ci := 5) (v := .int ge04_6) (C := RX5) (T := TX5) (N := 8) hx hb hts hinX5 hown hKK.1 hP 0 rfl rfl 4 (by decide) kl22 (fun _ h9 => h9) rfl dX5_readWord_53 ?_
            refine lv_iconst (v := 1) hx hb dX5_readWord_56 (by decide) ?_
            refine lv_iadd hx hb dX5_readWord_57 ?_
            refine va_put (D := G.1) (ci := 5) (v := .int (ge04_6 + 1)) (ty := .int) (C := RX5) (T := TX5) (N := 8) hx hb hts hinX5 tyX5 tyX5_ok nmX5 hown hKK.1 hP hD hS 0 rfl rfl 4 (by decide) kl22 (fun _ h9 => h9) rfl (by decide +kernel) rfl rfl (Nat.le_of_ble_eq_true rfl) dX5_readWord_58 (fun H locs hP hD hS => ?_)
            have hP : va_P G.1 vwCl [(e0, .inr (5, [.ref e01, .int xl, .int xf, .int xg, .int (ge04_6 + 1), .int xa2_5, .int xr, .int xn])), aB G e01 400 xb] H := hP
            have hD : va_D A [(e0, .inr (5, [.ref e01, .int xl, .int xf, .int xg, .int (ge04_6 + 1), .int xa2_5, .int xr, .int xn])), aB G e01 400 xb] := hD
            refine lv_goto (tgt := 12) hx hb dX5_readWord_61 (by decide) ?_
            exact ih_9 _ _ _ _ (Nat.lt_of_lt_of_le hv.2 (Nat.le_of_lt_succ hI_10)) hv.1 hP hD hS hl
  exact Lm_16 _ _ _ _ _ (Nat.lt_succ_self _) hi0 hP hD hS hl
theorem v_X5_readWord (l : Launch) (G : Gt) (e0 e01 : Nat) (sz : Nat) (xb : Nat → Int32) (xl : Int32) (xf : Int32) (xg : Int32) (xa : Int32) (xt : Int32) (xr : Int32) (xn : Int32) (B : Nat → Int) (L : Nat) (aq : Nat) (hp : CX B L xb xl ∧ xa = nI aq ∧ aq ≤ L) : ∃ (gB_1 : Nat → Int) (gL_2 : Nat) (gaq_3 : Nat), ((CX gB_1 gL_2 xb xl ∧ xa = nI gaq_3 ∧ gaq_3 ≤ gL_2) ∧ (∀ (xa2_5 : Int32), (xa2_5 = nI (sk gB_1 gL_2 gaq_3)) → (∃ (I12_7 : Int32 → Prop) (μ12_8 : Int32 → Nat), I12_7 xa2_5 ∧ (∀ (ge04_6 : Int32), I12_7 ge04_6 → (xl ≤ ge04_6 → xa2_5 = nI (sk B L aq) ∧ ge04_6 = nI (wE B L (sk B L aq))) ∧ (¬ (xl ≤ ge04_6) → (vp_in ge04_6 400) ∧ (((xb ge04_6.toNatClampNeg) < 97 → xa2_5 = nI (sk B L aq) ∧ ge04_6 = nI (wE B L (sk B L aq))) ∧ (¬ ((xb ge04_6.toNatClampNeg) < 97) → (vp_in ge04_6 400) ∧ ((122 < (xb ge04_6.toNatClampNeg) → xa2_5 = nI (sk B L aq) ∧ ge04_6 = nI (wE B L (sk B L aq))) ∧ (¬ (122 < (xb ge04_6.toNatClampNeg)) → I12_7 (ge04_6 + 1) ∧ μ12_8 (ge04_6 + 1) < μ12_8 ge04_6))))))))) := by
  obtain ⟨hX, rfl, ha⟩ := hp
  have hL := hX.1
  have hxl := hX.2.1
  have hs := sk_L (B := B) ha
  refine ⟨B, L, aq, ⟨hX, rfl, ha⟩, fun z hz => ?_⟩
  subst hz
  refine ⟨fun z => ∃ a, z = nI a ∧ a ≤ L ∧ wE B L a = wE B L (sk B L aq), fun z => 401 - z.toNatClampNeg, ⟨sk B L aq, rfl, hs, rfl⟩, ?_⟩
  rintro z ⟨a, rfl, haL, hw⟩
  have ea : (nI a).toNatClampNeg = a := nI_clamp (by omega)
  have ea1 : nI a + 1 = nI (a + 1) := nI_1 a
  have ea2 : (nI (a + 1)).toNatClampNeg = a + 1 := nI_clamp (by omega)
  have hle : nI L ≤ nI a ↔ L ≤ a := nI_leI (by omega) (by omega)
  simp only [ea, ea1, ea2, hxl, hle]
  have stop : ¬ (a < L ∧ isLe B a = true) → True ∧ nI a = nI (wE B L (sk B L aq)) := fun h => ⟨trivial, by rw [← hw]; unfold wE; rw [run_end h]⟩
  refine ⟨fun q => stop (fun z => absurd z.1 (by omega)), fun q => ?_⟩
  have hb := hX.rg (i := a) (by omega) 97 122 (by decide) (by decide)
  have v4 : vp_in (nI a) 400 := vp_in_nI (by omega) (by omega)
  refine ⟨v4, fun h => stop (fun z => (hb.mpr (of_decide_eq_true z.2)).1 h), fun h => ⟨v4, fun h2 => stop (fun z => (hb.mpr (of_decide_eq_true z.2)).2 h2), fun h2 => ⟨⟨a + 1, rfl, by omega, ?_⟩, by omega⟩⟩⟩
  rw [← hw]
  exact run_go (by omega) (decide_eq_true (hb.mp ⟨h, h2⟩))
theorem k_X5_readWord (l : Launch) (G : Gt) (e0 e01 : Nat) (sz : Nat) (xb : Nat → Int32) (xl : Int32) (xf : Int32) (xg : Int32) (xa : Int32) (xt : Int32) (xr : Int32) (xn : Int32) (B : Nat → Int) (L : Nat) (aq : Nat) (hp : CX B L xb xl ∧ xa = nI aq ∧ aq ≤ L) : MetV l yX5_readWord wsX5_readWord 1 20 G [.ref e0] [(e0, .inr (5, [.ref e01, .int xl, .int xf, .int xg, .int xa, .int xt, .int xr, .int xn])), aB G e01 400 xb] sz (fun (u : (Int32) × (Int32)) => u.2 = nI (sk B L aq) ∧ u.1 = nI (wE B L (sk B L aq))) (fun (u : (Int32) × (Int32)) => [(e0, .inr (5, [.ref e01, .int xl, .int xf, .int xg, .int u.1, .int u.2, .int xr, .int xn])), aB G e01 400 xb]) :=
  c_X5_readWord l G e0 e01 sz xb xl xf xg xa xt xr xn B L aq (v_X5_readWord l G e0 e01 sz xb xl xf xg xa xt xr xn B L aq hp)

set_option maxHeartbeats 4000000 in
set_option maxRecDepth 100000 in
theorem c_X5_wordIs (l : Launch) (G : Gt) (e0 e01 : Nat) (sz : Nat) (xb : Nat → Int32) (xl : Int32) (xf : Int32) (xg : Int32) (xa : Int32) (xt : Int32) (xr : Int32) (xn : Int32) (i_ : Nat) (B : Nat → Int) (L : Nat) (wq : Nat) (eq_ : Nat) (hi9 : i_ < 9) (hv : ((xa - xt) = (nI (stL.getD i_ 0)) → ∃ (I20_4 : Int32 → Prop) (μ20_5 : Int32 → Nat), I20_4 0 ∧ (∀ (x2_3 : Int32), I20_4 x2_3 → ((nI (stL.getD i_ 0)) ≤ x2_3 → (1 : Int32) = (if wIs B wq eq_ i_ = true then 1 else 0)) ∧ (¬ ((nI (stL.getD i_ 0)) ≤ x2_3) → (vp_in (xt + x2_3) 400) ∧ ((vp_in x2_3 (stL.getD i_ 0)) ∧ (((xb (xt + x2_3).toNatClampNeg) = ((stB.getD i_ []).getD x2_3.toNatClampNeg 0 &&& 255) → I20_4 (x2_3 + 1) ∧ μ20_5 (x2_3 + 1) < μ20_5 x2_3) ∧ (¬ ((xb (xt + x2_3).toNatClampNeg) = ((stB.getD i_ []).getD x2_3.toNatClampNeg 0 &&& 255)) → (0 : Int32) = (if wIs B wq eq_ i_ = true then 1 else 0))))))) ∧ (¬ ((xa - xt) = (nI (stL.getD i_ 0))) → (0 : Int32) = (if wIs B wq eq_ i_ = true then 1 else 0))) : MetI l yX5_wordIs wsX5_wordIs 4 85 G [.ref e0, .ref (kS G i_)] [(e0, .inr (5, [.ref e01, .int xl, .int xf, .int xg, .int xa, .int xt, .int xr, .int xn])), aB G e01 400 xb] sz (fun (r : Int32) (_ : Unit) => r = (if wIs B wq eq_ i_ = true then 1 else 0)) (fun (_ : Unit) => [(e0, .inr (5, [.ref e01, .int xl, .int xf, .int xg, .int xa, .int xt, .int xr, .int xn])), aB G e01 400 xb]) := by
  refine x_startI (cc := cX5_wordIs) (maxL := 3) (ret := (some .boolean)) (by decide) rfl (Nat.le_of_ble_eq_true rfl) ?_
  intro p e s m args below meth c A R Q ls hRf hRl hQ C hP hD hS hA hSS hl
  obtain ⟨hx, hb, hr, hml, hown, hts, hlocks, hKK⟩ := C
  have hown : s.vm.findClass RX5 = some m.cls := hown
  have hl : lv_has ls 3 [(0, .ref e0), (1, .ref (kS G i_))] := hl
  have hi9 := hi9
  have hinX5 : ∀ w ∈ u_ws RX5 TX5 8, w ∈ wsX5_wordIs := by decide +kernel
  have kl124 := hts (.fieldLink RX5 124 "WarmStones$Text" "tokenAt" "I") (by decide +kernel)
  have kl22 := hts (.fieldLink RX5 22 "WarmStones$Text" "at" "I") (by decide +kernel)
  have kl9 := hts (.fieldLink RX5 9 "WarmStones$Text" "bytes" "[B") (by decide +kernel)
  refine lv_aload_n hx hb dX5_wordIs_0 rfl (lv_at hl 0 rfl) ?_
  refine va_get (D := G.1) (ci := 5) (v := .int xa) (C := RX5) (T := TX5) (N := 8) hx hb hts hinX5 hown hKK.1 hP 0 rfl rfl 4 (by decide) kl22 (fun _ h9 => h9) rfl dX5_wordIs_1 ?_
  refine lv_aload_n hx hb dX5_wordIs_4 rfl (lv_at hl 0 rfl) ?_
  refine va_get (D := G.1) (ci := 5) (v := .int xt) (C := RX5) (T := TX5) (N := 8) hx hb hts hinX5 hown hKK.1 hP 0 rfl rfl 5 (by decide) kl124 (fun _ h9 => h9) rfl dX5_wordIs_5 ?_
  refine lv_isub hx hb dX5_wordIs_8 ?_
  refine lv_aload_n hx hb dX5_wordIs_9 rfl (lv_at hl 1 rfl) ?_
  refine x_calliR (x_runVK (i := i_) (As := []) (rest := [.int (xa - xt)]) (n := 0) ⟨hx, hb, hml, hown, hts⟩ (k_J0_length_8abf5 l G  _ i_ hi9) gX5_wordIs_J0_length_8abf5 rfl (by decide +kernel) ⟨Nat.le_trans (Nat.le_of_ble_eq_true rfl) hRf, Nat.le_trans (Nat.le_of_ble_eq_true rfl) hRl⟩ hKK hSS hS hA hP hD hi9 [] (by decide) rfl rfl hl.1 rfl (Nat.le_of_ble_eq_true rfl) dX5_wordIs_10) hP hD hS hA [] rfl (fun r_1 _ H locs hw hP hS => ?_)
  replace hw := hw.symm; subst hw
  refine lv_icmp_eq (tgt := 18) hx hb dX5_wordIs_13 (by decide) (fun hc_2 => ?_) (fun hc_2 => ?_)
  · have hv := hv.1 hc_2
    refine lv_iconst (v := 0) hx hb dX5_wordIs_18 (by decide) ?_
    refine lv_istore_n (lv' := [(2, .int 0), (0, .ref e0), (1, .ref (kS G i_))]) hx hb dX5_wordIs_19 rfl hl (by decide) rfl (fun ls hl => ?_)
    obtain ⟨I20_4, μ20_5, hi0, hs_12⟩ := hv
    have Lm_14 : ∀ (n_13 : Nat) (x2_3 : Int32) (H : Heap) (locs : List Loc) (ls : Array Slot), μ20_5 x2_3 < n_13 → I20_4 x2_3 → va_P G.1 vwCl [(e0, .inr (5, [.ref e01, .int xl, .int xf, .int xg, .int xa, .int xt, .int xr, .int xn])), aB G e01 400 xb] H → va_D A [(e0, .inr (5, [.ref e01, .int xl, .int xf, .int xg, .int xa, .int xt, .int xr, .int xn])), aB G e01 400 xb] → va_S A s.heap H locs → lv_has ls 3 [(2, .int x2_3), (0, .ref e0), (1, .ref (kS G i_))] → W p l e R s m args below meth c H locs 0 0 Q (F0 m 20 ls []) := by
      intro n_13
      induction n_13 with
      | zero => intro x2_3 H locs ls hm; exact absurd hm (Nat.not_lt_zero _)
      | succ n_13 ih_6 =>
        intro x2_3 H locs ls hI_7 hi hP hD hS hl
        have hv := hs_12 x2_3 hi
        refine lv_iload_n hx hb dX5_wordIs_20 rfl (lv_at hl 0 rfl) ?_
        refine lv_aload_n hx hb dX5_wordIs_21 rfl (lv_at hl 2 rfl) ?_
        refine x_calliR (x_runVK (i := i_) (As := []) (rest := [.int x2_3]) (n := 0) ⟨hx, hb, hml, hown, hts⟩ (k_J0_length_8abf5 l G  _ i_ hi9) gX5_wordIs_J0_length_8abf5 rfl (by decide +kernel) ⟨Nat.le_trans (Nat.le_of_ble_eq_true rfl) hRf, Nat.le_trans (Nat.le_of_ble_eq_true rfl) hRl⟩ hKK hSS hS hA hP hD hi9 [] (by decide) rfl rfl hl.1 rfl (Nat.le_of_ble_eq_true rfl) dX5_wordIs_22) hP hD hS hA [] rfl (fun r_8 _ H locs hw hP hS => ?_)
        replace hw := hw.symm; subst hw
        refine lv_icmp_ge (tgt := 55) hx hb dX5_wordIs_25 (by decide) (fun hc_9 => ?_) (fun hc_9 => ?_)
        · have hv := hv.1 hc_9
          refine lv_iconst (v := 1) hx hb dX5_wordIs_55 (by decide) ?_
          exact x_zret (v := 1) () hQ hx hb hr hlocks hS dX5_wordIs_56 rfl hv hP hD
        · have hv := hv.2 hc_9
          refine lv_aload_n hx hb dX5_wordIs_28 rfl (lv_at hl 1 rfl) ?_
          refine va_get (D := G.1) (ci := 5) (v := .ref e01) (C := RX5) (T := TX5) (N := 8) hx hb hts hinX5 hown hKK.1 hP 0 rfl rfl 0 (by decide) kl9 (fun _ h9 => h9) rfl dX5_wordIs_29 ?_
          refine lv_aload_n hx hb dX5_wordIs_32 rfl (lv_at hl 1 rfl) ?_
          refine va_get (D := G.1) (ci := 5) (v := .int xt) (C := RX5) (T := TX5) (N := 8) hx hb hts hinX5 hown hKK.1 hP 0 rfl rfl 5 (by decide) kl124 (fun _ h9 => h9) rfl dX5_wordIs_33 ?_
          refine lv_iload_n hx hb dX5_wordIs_36 rfl (lv_at hl 0 rfl) ?_
          refine lv_iadd hx hb dX5_wordIs_37 ?_
          obtain ⟨hin, hv⟩ := hv
          refine va_bald hx hb hKK.1 hP 1 1 rfl rfl hin dX5_wordIs_38 ?_
          refine lv_aload_n hx hb dX5_wordIs_39 rfl (lv_at hl 2 rfl) ?_
          refine lv_iload_n hx hb dX5_wordIs_40 rfl (lv_at hl 0 rfl) ?_
          obtain ⟨hp, hv⟩ := hv
          refine x_calliR (x_runVK (i := i_) (As := [.int x2_3]) (rest := [.int (xb (xt + x2_3).toNatClampNeg)]) (n := 1) ⟨hx, hb, hml, hown, hts⟩ (k_J0_charAt_5068e l G  _ i_ x2_3 hi9 hp) gX5_wordIs_J0_charAt_5068e rfl (by decide +kernel) ⟨Nat.le_trans (Nat.le_of_ble_eq_true rfl) hRf, Nat.le_trans (Nat.le_of_ble_eq_true rfl) hRl⟩ hKK hSS hS hA hP hD hi9 [] (by decide) rfl rfl hl.1 rfl (Nat.le_of_ble_eq_true rfl) dX5_wordIs_41) hP hD hS hA [] rfl (fun r_10 _ H locs hw hP hS => ?_)
          replace hw := hw.symm; subst hw
          refine lv_icmp_eq (tgt := 49) hx hb dX5_wordIs_44 (by decide) (fun hc_11 => ?_) (fun hc_11 => ?_)
          · have hv := hv.1 hc_11
            refine lv_iinc (v := (x2_3 + 1)) (lv' := [(2, .int (x2_3 + 1)), (0, .ref e0), (1, .ref (kS G i_))]) hx hb dX5_wordIs_49 hl (k := 0) rfl rfl (by decide) rfl (fun ls hl => ?_)
            refine lv_goto (tgt := 20) hx hb dX5_wordIs_52 (by decide) ?_
            exact ih_6 _ _ _ _ (Nat.lt_of_lt_of_le hv.2 (Nat.le_of_lt_succ hI_7)) hv.1 hP hD hS hl
          · have hv := hv.2 hc_11
            refine lv_iconst (v := 0) hx hb dX5_wordIs_47 (by decide) ?_
            exact x_zret (v := 0) () hQ hx hb hr hlocks hS dX5_wordIs_48 rfl hv hP hD
    exact Lm_14 _ _ _ _ _ (Nat.lt_succ_self _) hi0 hP hD hS hl
  · have hv := hv.2 hc_2
    refine lv_iconst (v := 0) hx hb dX5_wordIs_16 (by decide) ?_
    exact x_zret (v := 0) () hQ hx hb hr hlocks hS dX5_wordIs_17 rfl hv hP hD
theorem v_X5_wordIs (l : Launch) (G : Gt) (e0 e01 : Nat) (sz : Nat) (xb : Nat → Int32) (xl : Int32) (xf : Int32) (xg : Int32) (xa : Int32) (xt : Int32) (xr : Int32) (xn : Int32) (i_ : Nat) (B : Nat → Int) (L : Nat) (wq : Nat) (eq_ : Nat) (hi9 : i_ < 9) (hp : CX B L xb xl ∧ xt = nI wq ∧ xa = nI eq_ ∧ wq ≤ eq_ ∧ eq_ ≤ L) : ((xa - xt) = (nI (stL.getD i_ 0)) → ∃ (I20_4 : Int32 → Prop) (μ20_5 : Int32 → Nat), I20_4 0 ∧ (∀ (x2_3 : Int32), I20_4 x2_3 → ((nI (stL.getD i_ 0)) ≤ x2_3 → (1 : Int32) = (if wIs B wq eq_ i_ = true then 1 else 0)) ∧ (¬ ((nI (stL.getD i_ 0)) ≤ x2_3) → (vp_in (xt + x2_3) 400) ∧ ((vp_in x2_3 (stL.getD i_ 0)) ∧ (((xb (xt + x2_3).toNatClampNeg) = ((stB.getD i_ []).getD x2_3.toNatClampNeg 0 &&& 255) → I20_4 (x2_3 + 1) ∧ μ20_5 (x2_3 + 1) < μ20_5 x2_3) ∧ (¬ ((xb (xt + x2_3).toNatClampNeg) = ((stB.getD i_ []).getD x2_3.toNatClampNeg 0 &&& 255)) → (0 : Int32) = (if wIs B wq eq_ i_ = true then 1 else 0))))))) ∧ (¬ ((xa - xt) = (nI (stL.getD i_ 0))) → (0 : Int32) = (if wIs B wq eq_ i_ = true then 1 else 0)) := by
  obtain ⟨hX, rfl, rfl, hwe, heL⟩ := hp
  have hL := hX.1
  have hxl := hX.2.1
  have hl := st_l i_ hi9
  have ed : nI eq_ - nI wq = nI (eq_ - wq) := nI_sub hwe (by omega)
  have he : nI (eq_ - wq) = nI (stL.getD i_ 0) ↔ eq_ - wq = stL.getD i_ 0 := nI_eqI (by omega) (by omega)
  rw [ed, he]
  refine ⟨fun h => ?_, fun h => ?_⟩
  · refine ⟨fun z => ∃ k, z = nI k ∧ k ≤ stL.getD i_ 0 ∧ weqF B wq i_ k = true, fun z => 9 - z.toNatClampNeg, ⟨0, rfl, by omega, rfl⟩, ?_⟩
    rintro z ⟨k, rfl, hk, hw⟩
    have ek : (nI k).toNatClampNeg = k := nI_clamp (by omega)
    have ek1 : nI k + 1 = nI (k + 1) := nI_1 k
    have ek2 : (nI (k + 1)).toNatClampNeg = k + 1 := nI_clamp (by omega)
    have ew : nI wq + nI k = nI (wq + k) := nI_add wq k
    have cw : (nI (wq + k)).toNatClampNeg = wq + k := nI_clamp (by omega)
    have hle : nI (stL.getD i_ 0) ≤ nI k ↔ stL.getD i_ 0 ≤ k := nI_leI (by omega) (by omega)
    simp only [ek, ek1, ek2, ew, cw, hle]
    refine ⟨fun q => ?_, fun q => ?_⟩
    · have e : k = stL.getD i_ 0 := by omega
      rw [if_pos]
      unfold wIs
      rw [decide_eq_true h, ← e, hw]
      rfl
    · have hc := st_c i_ hi9 k (by omega)
      have hb := hX.is (i := wq + k) (by omega) ((stB.getD i_ []).getD k 0) hc.2.1 hc.2.2
      rw [hc.1, hb]
      refine ⟨vp_in_nI (by omega) (by omega), vp_in_nI (by omega) (by omega), fun g => ⟨⟨k + 1, rfl, by omega, ?_⟩, by omega⟩, fun g => ?_⟩
      · rw [weqF, hw, decide_eq_true g]; rfl
      · rw [if_neg]
        unfold wIs
        rw [weqF_no g _ (by omega), Bool.and_false]
        decide
  · rw [if_neg]
    unfold wIs
    rw [decide_eq_false h, Bool.false_and]
    decide
theorem k_X5_wordIs (l : Launch) (G : Gt) (e0 e01 : Nat) (sz : Nat) (xb : Nat → Int32) (xl : Int32) (xf : Int32) (xg : Int32) (xa : Int32) (xt : Int32) (xr : Int32) (xn : Int32) (i_ : Nat) (B : Nat → Int) (L : Nat) (wq : Nat) (eq_ : Nat) (hi9 : i_ < 9) (hp : CX B L xb xl ∧ xt = nI wq ∧ xa = nI eq_ ∧ wq ≤ eq_ ∧ eq_ ≤ L) : MetI l yX5_wordIs wsX5_wordIs 4 85 G [.ref e0, .ref (kS G i_)] [(e0, .inr (5, [.ref e01, .int xl, .int xf, .int xg, .int xa, .int xt, .int xr, .int xn])), aB G e01 400 xb] sz (fun (r : Int32) (_ : Unit) => r = (if wIs B wq eq_ i_ = true then 1 else 0)) (fun (_ : Unit) => [(e0, .inr (5, [.ref e01, .int xl, .int xf, .int xg, .int xa, .int xt, .int xr, .int xn])), aB G e01 400 xb]) :=
  c_X5_wordIs l G e0 e01 sz xb xl xf xg xa xt xr xn i_ B L wq eq_ hi9 (v_X5_wordIs l G e0 e01 sz xb xl xf xg xa xt xr xn i_ B L wq eq_ hi9 hp)

set_option maxHeartbeats 4000000 in
set_option maxRecDepth 100000 in
theorem c_X5_readNumber (l : Launch) (G : Gt) (e0 e01 : Nat) (sz : Nat) (xb : Nat → Int32) (xl : Int32) (xf : Int32) (xg : Int32) (xa : Int32) (xt : Int32) (xr : Int32) (xn : Int32) (x : Int32) (y : Int32) (B : Nat → Int) (L : Nat) (st : Flt ⊕ Nat) (hv : (xg = 0 → ∃ (gB_2 : Nat → Int) (gL_3 : Nat) (gaq_4 : Nat), ((CX gB_2 gL_3 xb xl ∧ xa = nI gaq_4 ∧ gaq_4 ≤ gL_3) ∧ (∀ (xa2_6 : Int32), (xa2_6 = nI (sk gB_2 gL_3 gaq_4)) → (∃ (I23_9 : Int32 → Int32 → Prop) (μ23_10 : Int32 → Int32 → Nat), I23_9 xa2_6 0 ∧ (∀ (ge04_7 : Int32) (x3_8 : Int32), I23_9 ge04_7 x3_8 → (xl ≤ ge04_7 → (¬ ge04_7 = xa2_6 → (4 < (ge04_7 - xa2_6) → CSn L (bnd st (nuR B L x.toInt y.toInt)) x3_8 (if xg = 0 then 2 else xg) (if xg = 0 then xa2_6 else xf) ge04_7 xa2_6) ∧ (¬ (4 < (ge04_7 - xa2_6)) → (¬ x3_8 < x ∧ ¬ y < x3_8 → CSn L (bnd st (nuR B L x.toInt y.toInt)) x3_8 xg xf ge04_7 xa2_6) ∧ (¬ (¬ x3_8 < x ∧ ¬ y < x3_8) → CSn L (bnd st (nuR B L x.toInt y.toInt)) x3_8 (if xg = 0 then 2 else xg) (if xg = 0 then xa2_6 else xf) ge04_7 xa2_6))) ∧ (ge04_7 = xa2_6 → CSn L (bnd st (nuR B L x.toInt y.toInt)) x3_8 (if xg = 0 then 1 else xg) (if xg = 0 then xa2_6 else xf) ge04_7 xa2_6)) ∧ (¬ (xl ≤ ge04_7) → (vp_in ge04_7 400) ∧ (((xb ge04_7.toNatClampNeg) < 48 → (¬ ge04_7 = xa2_6 → (4 < (ge04_7 - xa2_6) → CSn L (bnd st (nuR B L x.toInt y.toInt)) x3_8 (if xg = 0 then 2 else xg) (if xg = 0 then xa2_6 else xf) ge04_7 xa2_6) ∧ (¬ (4 < (ge04_7 - xa2_6)) → (¬ x3_8 < x ∧ ¬ y < x3_8 → CSn L (bnd st (nuR B L x.toInt y.toInt)) x3_8 xg xf ge04_7 xa2_6) ∧ (¬ (¬ x3_8 < x ∧ ¬ y < x3_8) → CSn L (bnd st (nuR B L x.toInt y.toInt)) x3_8 (if xg = 0 then 2 else xg) (if xg = 0 then xa2_6 else xf) ge04_7 xa2_6))) ∧ (ge04_7 = xa2_6 → CSn L (bnd st (nuR B L x.toInt y.toInt)) x3_8 (if xg = 0 then 1 else xg) (if xg = 0 then xa2_6 else xf) ge04_7 xa2_6)) ∧ (¬ ((xb ge04_7.toNatClampNeg) < 48) → (vp_in ge04_7 400) ∧ ((57 < (xb ge04_7.toNatClampNeg) → (¬ ge04_7 = xa2_6 → (4 < (ge04_7 - xa2_6) → CSn L (bnd st (nuR B L x.toInt y.toInt)) x3_8 (if xg = 0 then 2 else xg) (if xg = 0 then xa2_6 else xf) ge04_7 xa2_6) ∧ (¬ (4 < (ge04_7 - xa2_6)) → (¬ x3_8 < x ∧ ¬ y < x3_8 → CSn L (bnd st (nuR B L x.toInt y.toInt)) x3_8 xg xf ge04_7 xa2_6) ∧ (¬ (¬ x3_8 < x ∧ ¬ y < x3_8) → CSn L (bnd st (nuR B L x.toInt y.toInt)) x3_8 (if xg = 0 then 2 else xg) (if xg = 0 then xa2_6 else xf) ge04_7 xa2_6))) ∧ (ge04_7 = xa2_6 → CSn L (bnd st (nuR B L x.toInt y.toInt)) x3_8 (if xg = 0 then 1 else xg) (if xg = 0 then xa2_6 else xf) ge04_7 xa2_6)) ∧ (¬ (57 < (xb ge04_7.toNatClampNeg)) → (vp_in ge04_7 400) ∧ (I23_9 (ge04_7 + 1) (((10 * x3_8) + (xb ge04_7.toNatClampNeg)) - 48) ∧ μ23_10 (ge04_7 + 1) (((10 * x3_8) + (xb ge04_7.toNatClampNeg)) - 48) < μ23_10 ge04_7 x3_8))))))))))) ∧ (¬ (xg = 0) → CSn L (bnd st (nuR B L x.toInt y.toInt)) x xg xf xa xt)) : MetI l yX5_readNumber wsX5_readNumber 1 22 G [.ref e0, .int x, .int y] [(e0, .inr (5, [.ref e01, .int xl, .int xf, .int xg, .int xa, .int xt, .int xr, .int xn])), aB G e01 400 xb] sz (fun (r : Int32) (u : (Int32) × (Int32) × (Int32) × (Int32)) => CSn L (bnd st (nuR B L x.toInt y.toInt)) r u.2.2.1 u.2.2.2 u.1 u.2.1) (fun (u : (Int32) × (Int32) × (Int32) × (Int32)) => [(e0, .inr (5, [.ref e01, .int xl, .int u.2.2.2, .int u.2.2.1, .int u.1, .int u.2.1, .int xr, .int xn])), aB G e01 400 xb]) := by
  refine x_startI (cc := cX5_readNumber) (maxL := 4) (ret := (some .int)) (by decide) rfl (Nat.le_of_ble_eq_true rfl) ?_
  intro p e s m args below meth c A R Q ls hRf hRl hQ C hP hD hS hA hSS hl
  obtain ⟨hx, hb, hr, hml, hown, hts, hlocks, hKK⟩ := C
  have hown : s.vm.findClass RX5 = some m.cls := hown
  have hl : lv_has ls 4 [(0, .ref e0), (1, .int x), (2, .int y)] := hl
  have hinX5 : ∀ w ∈ u_ws RX5 TX5 8, w ∈ wsX5_readNumber := by decide +kernel
  have kl124 := hts (.fieldLink RX5 124 "WarmStones$Text" "tokenAt" "I") (by decide +kernel)
  have kl19 := hts (.fieldLink RX5 19 "WarmStones$Text" "length" "I") (by decide +kernel)
  have kl22 := hts (.fieldLink RX5 22 "WarmStones$Text" "at" "I") (by decide +kernel)
  have kl25 := hts (.fieldLink RX5 25 "WarmStones$Text" "fault" "I") (by decide +kernel)
  have kl9 := hts (.fieldLink RX5 9 "WarmStones$Text" "bytes" "[B") (by decide +kernel)
  have kn_iRX7 := hts (.initialized RX7) (by decide +kernel)
  have kn_sX7_within := hts (.static yX7_within) (by decide +kernel)
  refine lv_aload_n hx hb dX5_readNumber_0 rfl (lv_at hl 0 rfl) ?_
  refine va_get (D := G.1) (ci := 5) (v := .int xg) (C := RX5) (T := TX5) (N := 8) hx hb hts hinX5 hown hKK.1 hP 0 rfl rfl 3 (by decide) kl25 (fun _ h9 => h9) rfl dX5_readNumber_1 ?_
  refine lv_if_eq (tgt := 9) hx hb dX5_readNumber_4 (by decide) (fun hc_1 => ?_) (fun hc_1 => ?_)
  · have hv := hv.1 hc_1
    refine lv_aload_n hx hb dX5_readNumber_9 rfl (lv_at hl 0 rfl) ?_
    obtain ⟨gB_2, gL_3, gaq_4, hv⟩ := hv
    obtain ⟨hp, hv⟩ := hv
    refine x_callv (wr := []) (w' := fun (u : (Int32)) => [(e0, .inr (5, [.ref e01, .int xl, .int xf, .int xg, .int u, .int xt, .int xr, .int xn])), aB G e01 400 xb]) (x_runV (As := []) (rest := []) (n := 0) (C := RX5) (ci := 5) ⟨hx, hb, hml, hown, hts⟩ (k_X5_skipBlanks l G e0 e01 _ xb xl xf xg xa xt xr xn gB_2 gL_3 gaq_4 hp) gX5_readNumber_X5_skipBlanks rfl (by decide +kernel) ⟨Nat.le_trans (Nat.le_of_ble_eq_true rfl) hRf, Nat.le_trans (Nat.le_of_ble_eq_true rfl) hRl⟩ hKK hSS hS hA hP hD [0, 1] (by decide) rfl rfl rfl 0 rfl rfl hl.1 rfl (Nat.le_of_ble_eq_true rfl) dX5_readNumber_10) hP hD hS hA [0, 1] [] [0, 1] rfl rfl (by decide) (by decide) (by decide) (fun _ => rfl) (fun  u H locs hw hP hD hS => ?_)
    obtain ⟨xa2_6, rfl⟩ : ∃ z9_, z9_ = u := ⟨_, rfl⟩
    have hP : va_P G.1 vwCl [(e0, .inr (5, [.ref e01, .int xl, .int xf, .int xg, .int xa2_6, .int xt, .int xr, .int xn])), aB G e01 400 xb] H := hP
    have hD : va_D A [(e0, .inr (5, [.ref e01, .int xl, .int xf, .int xg, .int xa2_6, .int xt, .int xr, .int xn])), aB G e01 400 xb] := hD
    have hv := hv xa2_6 hw
    refine lv_aload_n hx hb dX5_readNumber_13 rfl (lv_at hl 0 rfl) ?_
    refine lv_aload_n hx hb dX5_readNumber_14 rfl (lv_at hl 0 rfl) ?_
    refine va_get (D := G.1) (ci := 5) (v := .int xa2_6) (C := RX5) (T := TX5) (N := 8) hx hb hts hinX5 hown hKK.1 hP 0 rfl rfl 4 (by decide) kl22 (fun _ h9 => h9) rfl dX5_readNumber_15 ?_
    refine va_put (D := G.1) (ci := 5) (v := .int xa2_6) (ty := .int) (C := RX5) (T := TX5) (N := 8) hx hb hts hinX5 tyX5 tyX5_ok nmX5 hown hKK.1 hP hD hS 0 rfl rfl 5 (by decide) kl124 (fun _ h9 => h9) rfl (by decide +kernel) rfl rfl (Nat.le_of_ble_eq_true rfl) dX5_readNumber_18 (fun H locs hP hD hS => ?_)
    have hP : va_P G.1 vwCl [(e0, .inr (5, [.ref e01, .int xl, .int xf, .int xg, .int xa2_6, .int xa2_6, .int xr, .int xn])), aB G e01 400 xb] H := hP
    have hD : va_D A [(e0, .inr (5, [.ref e01, .int xl, .int xf, .int xg, .int xa2_6, .int xa2_6, .int xr, .int xn])), aB G e01 400 xb] := hD
    refine lv_iconst (v := 0) hx hb dX5_readNumber_21 (by decide) ?_
    refine lv_istore_n (lv' := [(3, .int 0), (0, .ref e0), (1, .int x), (2, .int y)]) hx hb dX5_readNumber_22 rfl hl (by decide) rfl (fun ls hl => ?_)
    obtain ⟨I23_9, μ23_10, hi0, hs_55⟩ := hv
    have Lm_57 : ∀ (n_56 : Nat) (ge04_7 : Int32) (x3_8 : Int32) (H : Heap) (locs : List Loc) (ls : Array Slot), μ23_10 ge04_7 x3_8 < n_56 → I23_9 ge04_7 x3_8 → va_P G.1 vwCl [(e0, .inr (5, [.ref e01, .int xl, .int xf, .int xg, .int ge04_7, .int xa2_6, .int xr, .int xn])), aB G e01 400 xb] H → va_D A [(e0, .inr (5, [.ref e01, .int xl, .int xf, .int xg, .int ge04_7, .int xa2_6, .int xr, .int xn])), aB G e01 400 xb] → va_S A s.heap H locs → lv_has ls 4 [(3, .int x3_8), (0, .ref e0), (1, .int x), (2, .int y)] → W p l e R s m args below meth c H locs 0 0 Q (F0 m 23 ls []) := by
      intro n_56
      induction n_56 with
      | zero => intro ge04_7 x3_8 H locs ls hm; exact absurd hm (Nat.not_lt_zero _)
      | succ n_56 ih_11 =>
        intro ge04_7 x3_8 H locs ls hI_12 hi hP hD hS hl
        have hv := hs_55 ge04_7 x3_8 hi
        refine lv_aload_n hx hb dX5_readNumber_23 rfl (lv_at hl 1 rfl) ?_
        refine va_get (D := G.1) (ci := 5) (v := .int ge04_7) (C := RX5) (T := TX5) (N := 8) hx hb hts hinX5 hown hKK.1 hP 0 rfl rfl 4 (by decide) kl22 (fun _ h9 => h9) rfl dX5_readNumber_24 ?_
        refine lv_aload_n hx hb dX5_readNumber_27 rfl (lv_at hl 1 rfl) ?_
        refine va_get (D := G.1) (ci := 5) (v := .int xl) (C := RX5) (T := TX5) (N := 8) hx hb hts hinX5 hown hKK.1 hP 0 rfl rfl 1 (by decide) kl19 (fun _ h9 => h9) rfl dX5_readNumber_28 ?_
        refine lv_icmp_ge (tgt := 93) hx hb dX5_readNumber_31 (by decide) (fun hc_13 => ?_) (fun hc_13 => ?_)
        · have hv := hv.1 hc_13
          refine lv_aload_n hx hb dX5_readNumber_93 rfl (lv_at hl 1 rfl) ?_
          refine va_get (D := G.1) (ci := 5) (v := .int ge04_7) (C := RX5) (T := TX5) (N := 8) hx hb hts hinX5 hown hKK.1 hP 0 rfl rfl 4 (by decide) kl22 (fun _ h9 => h9) rfl dX5_readNumber_94 ?_
          refine lv_aload_n hx hb dX5_readNumber_97 rfl (lv_at hl 1 rfl) ?_
          refine va_get (D := G.1) (ci := 5) (v := .int xa2_6) (C := RX5) (T := TX5) (N := 8) hx hb hts hinX5 hown hKK.1 hP 0 rfl rfl 5 (by decide) kl124 (fun _ h9 => h9) rfl dX5_readNumber_98 ?_
          refine lv_icmp_ne (tgt := 112) hx hb dX5_readNumber_101 (by decide) (fun hc_14 => ?_) (fun hc_14 => ?_)
          · have hv := hv.1 hc_14
            refine lv_aload_n hx hb dX5_readNumber_112 rfl (lv_at hl 1 rfl) ?_
            refine va_get (D := G.1) (ci := 5) (v := .int ge04_7) (C := RX5) (T := TX5) (N := 8) hx hb hts hinX5 hown hKK.1 hP 0 rfl rfl 4 (by decide) kl22 (fun _ h9 => h9) rfl dX5_readNumber_113 ?_
            refine lv_aload_n hx hb dX5_readNumber_116 rfl (lv_at hl 1 rfl) ?_
            refine va_get (D := G.1) (ci := 5) (v := .int xa2_6) (C := RX5) (T := TX5) (N := 8) hx hb hts hinX5 hown hKK.1 hP 0 rfl rfl 5 (by decide) kl124 (fun _ h9 => h9) rfl dX5_readNumber_117 ?_
            refine lv_isub hx hb dX5_readNumber_120 ?_
            refine lv_iconst (v := 4) hx hb dX5_readNumber_121 (by decide) ?_
            refine lv_icmp_gt (tgt := 134) hx hb dX5_readNumber_122 (by decide) (fun hc_15 => ?_) (fun hc_15 => ?_)
            · have hv := hv.1 hc_15
              refine lv_aload_n hx hb dX5_readNumber_134 rfl (lv_at hl 1 rfl) ?_
              refine lv_iconst (v := 2) hx hb dX5_readNumber_135 (by decide) ?_
              refine x_callv (wr := []) (w' := fun (u : (Int32) × (Int32)) => [(e0, .inr (5, [.ref e01, .int xl, .int u.2, .int u.1, .int ge04_7, .int xa2_6, .int xr, .int xn])), aB G e01 400 xb]) (x_runV (As := [.int 2]) (rest := []) (n := 1) (C := RX5) (ci := 5) ⟨hx, hb, hml, hown, hts⟩ (k_X5_fail l G e0 e01 _ xb xl xf xg ge04_7 xa2_6 xr xn 2) gX5_readNumber_X5_fail rfl (by decide +kernel) ⟨Nat.le_trans (Nat.le_of_ble_eq_true rfl) hRf, Nat.le_trans (Nat.le_of_ble_eq_true rfl) hRl⟩ hKK hSS hS hA hP hD [0, 1] (by decide) rfl rfl rfl 0 rfl rfl hl.1 rfl (Nat.le_of_ble_eq_true rfl) dX5_readNumber_136) hP hD hS hA [0, 1] [] [0, 1] rfl rfl (by decide) (by decide) (by decide) (fun _ => rfl) (fun  u H locs hw hP hD hS => ?_)
              obtain ⟨xg2_17, xf2_18⟩ := u
              obtain ⟨hw0, hw1⟩ := hw
              replace hw0 := hw0.symm; subst hw0
              replace hw1 := hw1.symm; subst hw1
              have hP : va_P G.1 vwCl [(e0, .inr (5, [.ref e01, .int xl, .int (if xg = 0 then xa2_6 else xf), .int (if xg = 0 then 2 else xg), .int ge04_7, .int xa2_6, .int xr, .int xn])), aB G e01 400 xb] H := hP
              have hD : va_D A [(e0, .inr (5, [.ref e01, .int xl, .int (if xg = 0 then xa2_6 else xf), .int (if xg = 0 then 2 else xg), .int ge04_7, .int xa2_6, .int xr, .int xn])), aB G e01 400 xb] := hD
              refine lv_iload_n hx hb dX5_readNumber_139 rfl (lv_at hl 0 rfl) ?_
              exact x_iret (v := x3_8) (ge04_7, xa2_6, (if xg = 0 then 2 else xg), (if xg = 0 then xa2_6 else xf)) hQ hx hb hr hlocks hS dX5_readNumber_140 hv hP hD
            · have hv := hv.2 hc_15
              refine lv_iload_n hx hb dX5_readNumber_125 rfl (lv_at hl 0 rfl) ?_
              refine lv_iload_n hx hb dX5_readNumber_126 rfl (lv_at hl 2 rfl) ?_
              refine lv_iload_n hx hb dX5_readNumber_127 rfl (lv_at hl 3 rfl) ?_
              refine x_calliR (x_runSN (As := [.int x3_8, .int x, .int y]) (rest := []) (n := 3) ⟨hx, hb, hml, hown, hts⟩ (k_X7_within l G  _ x3_8 x y) gX5_readNumber_X7_within_n135 rfl kn_iRX7 kn_sX7_within (by decide) (by decide +kernel) ⟨Nat.le_trans (Nat.le_of_ble_eq_true rfl) hRf, Nat.le_trans (Nat.le_of_ble_eq_true rfl) hRl⟩ hKK hSS hS hA hP hD [] (by decide) rfl rfl hl.1 rfl (Nat.le_of_ble_eq_true rfl) dX5_readNumber_128) hP hD hS hA [] rfl (fun r_19 _ H locs hw hP hS => ?_)
              replace hw := hw.symm; subst hw
              refine lv_if_ne (tgt := 139) hx hb dX5_readNumber_131 (by decide) (fun hc_20 => ?_) (fun hc_20 => ?_)
              · have hv := hv.1 (tv_eqn.mp hc_20)
                refine lv_iload_n hx hb dX5_readNumber_139 rfl (lv_at hl 0 rfl) ?_
                exact x_iret (v := x3_8) (ge04_7, xa2_6, xg, xf) hQ hx hb hr hlocks hS dX5_readNumber_140 hv hP hD
              · have hv := hv.2 (tv_eq.mp hc_20)
                refine lv_aload_n hx hb dX5_readNumber_134 rfl (lv_at hl 1 rfl) ?_
                refine lv_iconst (v := 2) hx hb dX5_readNumber_135 (by decide) ?_
                refine x_callv (wr := []) (w' := fun (u : (Int32) × (Int32)) => [(e0, .inr (5, [.ref e01, .int xl, .int u.2, .int u.1, .int ge04_7, .int xa2_6, .int xr, .int xn])), aB G e01 400 xb]) (x_runV (As := [.int 2]) (rest := []) (n := 1) (C := RX5) (ci := 5) ⟨hx, hb, hml, hown, hts⟩ (k_X5_fail l G e0 e01 _ xb xl xf xg ge04_7 xa2_6 xr xn 2) gX5_readNumber_X5_fail rfl (by decide +kernel) ⟨Nat.le_trans (Nat.le_of_ble_eq_true rfl) hRf, Nat.le_trans (Nat.le_of_ble_eq_true rfl) hRl⟩ hKK hSS hS hA hP hD [0, 1] (by decide) rfl rfl rfl 0 rfl rfl hl.1 rfl (Nat.le_of_ble_eq_true rfl) dX5_readNumber_136) hP hD hS hA [0, 1] [] [0, 1] rfl rfl (by decide) (by decide) (by decide) (fun _ => rfl) (fun  u H locs hw hP hD hS => ?_)
                obtain ⟨xg2_22, xf2_23⟩ := u
                obtain ⟨hw0, hw1⟩ := hw
                replace hw0 := hw0.symm; subst hw0
                replace hw1 := hw1.symm; subst hw1
                have hP : va_P G.1 vwCl [(e0, .inr (5, [.ref e01, .int xl, .int (if xg = 0 then xa2_6 else xf), .int (if xg = 0 then 2 else xg), .int ge04_7, .int xa2_6, .int xr, .int xn])), aB G e01 400 xb] H := hP
                have hD : va_D A [(e0, .inr (5, [.ref e01, .int xl, .int (if xg = 0 then xa2_6 else xf), .int (if xg = 0 then 2 else xg), .int ge04_7, .int xa2_6, .int xr, .int xn])), aB G e01 400 xb] := hD
                refine lv_iload_n hx hb dX5_readNumber_139 rfl (lv_at hl 0 rfl) ?_
                exact x_iret (v := x3_8) (ge04_7, xa2_6, (if xg = 0 then 2 else xg), (if xg = 0 then xa2_6 else xf)) hQ hx hb hr hlocks hS dX5_readNumber_140 hv hP hD
          · have hv := hv.2 hc_14
            refine lv_aload_n hx hb dX5_readNumber_104 rfl (lv_at hl 1 rfl) ?_
            refine lv_iconst (v := 1) hx hb dX5_readNumber_105 (by decide) ?_
            refine x_callv (wr := []) (w' := fun (u : (Int32) × (Int32)) => [(e0, .inr (5, [.ref e01, .int xl, .int u.2, .int u.1, .int ge04_7, .int xa2_6, .int xr, .int xn])), aB G e01 400 xb]) (x_runV (As := [.int 1]) (rest := []) (n := 1) (C := RX5) (ci := 5) ⟨hx, hb, hml, hown, hts⟩ (k_X5_fail l G e0 e01 _ xb xl xf xg ge04_7 xa2_6 xr xn 1) gX5_readNumber_X5_fail rfl (by decide +kernel) ⟨Nat.le_trans (Nat.le_of_ble_eq_true rfl) hRf, Nat.le_trans (Nat.le_of_ble_eq_true rfl) hRl⟩ hKK hSS hS hA hP hD [0, 1] (by decide) rfl rfl rfl 0 rfl rfl hl.1 rfl (Nat.le_of_ble_eq_true rfl) dX5_readNumber_106) hP hD hS hA [0, 1] [] [0, 1] rfl rfl (by decide) (by decide) (by decide) (fun _ => rfl) (fun  u H locs hw hP hD hS => ?_)
            obtain ⟨xg2_25, xf2_26⟩ := u
            obtain ⟨hw0, hw1⟩ := hw
            replace hw0 := hw0.symm; subst hw0
            replace hw1 := hw1.symm; subst hw1
            have hP : va_P G.1 vwCl [(e0, .inr (5, [.ref e01, .int xl, .int (if xg = 0 then xa2_6 else xf), .int (if xg = 0 then 1 else xg), .int ge04_7, .int xa2_6, .int xr, .int xn])), aB G e01 400 xb] H := hP
            have hD : va_D A [(e0, .inr (5, [.ref e01, .int xl, .int (if xg = 0 then xa2_6 else xf), .int (if xg = 0 then 1 else xg), .int ge04_7, .int xa2_6, .int xr, .int xn])), aB G e01 400 xb] := hD
            refine lv_goto (tgt := 139) hx hb dX5_readNumber_109 (by decide) ?_
            refine lv_iload_n hx hb dX5_readNumber_139 rfl (lv_at hl 0 rfl) ?_
            exact x_iret (v := x3_8) (ge04_7, xa2_6, (if xg = 0 then 1 else xg), (if xg = 0 then xa2_6 else xf)) hQ hx hb hr hlocks hS dX5_readNumber_140 hv hP hD
        · have hv := hv.2 hc_13
          refine lv_aload_n hx hb dX5_readNumber_34 rfl (lv_at hl 1 rfl) ?_
          refine va_get (D := G.1) (ci := 5) (v := .ref e01) (C := RX5) (T := TX5) (N := 8) hx hb hts hinX5 hown hKK.1 hP 0 rfl rfl 0 (by decide) kl9 (fun _ h9 => h9) rfl dX5_readNumber_35 ?_
          refine lv_aload_n hx hb dX5_readNumber_38 rfl (lv_at hl 1 rfl) ?_
          refine va_get (D := G.1) (ci := 5) (v := .int ge04_7) (C := RX5) (T := TX5) (N := 8) hx hb hts hinX5 hown hKK.1 hP 0 rfl rfl 4 (by decide) kl22 (fun _ h9 => h9) rfl dX5_readNumber_39 ?_
          obtain ⟨hin, hv⟩ := hv
          refine va_bald hx hb hKK.1 hP 1 1 rfl rfl hin dX5_readNumber_42 ?_
          refine lv_bipush (v := 48) hx hb dX5_readNumber_43 (by decide) ?_
          refine lv_icmp_lt (tgt := 93) hx hb dX5_readNumber_45 (by decide) (fun hc_27 => ?_) (fun hc_27 => ?_)
          · have hv := hv.1 hc_27
            refine lv_aload_n hx hb dX5_readNumber_93 rfl (lv_at hl 1 rfl) ?_
            refine va_get (D := G.1) (ci := 5) (v := .int ge04_7) (C := RX5) (T := TX5) (N := 8) hx hb hts hinX5 hown hKK.1 hP 0 rfl rfl 4 (by decide) kl22 (fun _ h9 => h9) rfl dX5_readNumber_94 ?_
            refine lv_aload_n hx hb dX5_readNumber_97 rfl (lv_at hl 1 rfl) ?_
            refine va_get (D := G.1) (ci := 5) (v := .int xa2_6) (C := RX5) (T := TX5) (N := 8) hx hb hts hinX5 hown hKK.1 hP 0 rfl rfl 5 (by decide) kl124 (fun _ h9 => h9) rfl dX5_readNumber_98 ?_
            refine lv_icmp_ne (tgt := 112) hx hb dX5_readNumber_101 (by decide) (fun hc_28 => ?_) (fun hc_28 => ?_)
            · have hv := hv.1 hc_28
              refine lv_aload_n hx hb dX5_readNumber_112 rfl (lv_at hl 1 rfl) ?_
              refine va_get (D := G.1) (ci := 5) (v := .int ge04_7) (C := RX5) (T := TX5) (N := 8) hx hb hts hinX5 hown hKK.1 hP 0 rfl rfl 4 (by decide) kl22 (fun _ h9 => h9) rfl dX5_readNumber_113 ?_
              refine lv_aload_n hx hb dX5_readNumber_116 rfl (lv_at hl 1 rfl) ?_
              refine va_get (D := G.1) (ci := 5) (v := .int xa2_6) (C := RX5) (T := TX5) (N := 8) hx hb hts hinX5 hown hKK.1 hP 0 rfl rfl 5 (by decide) kl124 (fun _ h9 => h9) rfl dX5_readNumber_117 ?_
              refine lv_isub hx hb dX5_readNumber_120 ?_
              refine lv_iconst (v := 4) hx hb dX5_readNumber_121 (by decide) ?_
              refine lv_icmp_gt (tgt := 134) hx hb dX5_readNumber_122 (by decide) (fun hc_29 => ?_) (fun hc_29 => ?_)
              · have hv := hv.1 hc_29
                refine lv_aload_n hx hb dX5_readNumber_134 rfl (lv_at hl 1 rfl) ?_
                refine lv_iconst (v := 2) hx hb dX5_readNumber_135 (by decide) ?_
                refine x_callv (wr := []) (w' := fun (u : (Int32) × (Int32)) => [(e0, .inr (5, [.ref e01, .int xl, .int u.2, .int u.1, .int ge04_7, .int xa2_6, .int xr, .int xn])), aB G e01 400 xb]) (x_runV (As := [.int 2]) (rest := []) (n := 1) (C := RX5) (ci := 5) ⟨hx, hb, hml, hown, hts⟩ (k_X5_fail l G e0 e01 _ xb xl xf xg ge04_7 xa2_6 xr xn 2) gX5_readNumber_X5_fail rfl (by decide +kernel) ⟨Nat.le_trans (Nat.le_of_ble_eq_true rfl) hRf, Nat.le_trans (Nat.le_of_ble_eq_true rfl) hRl⟩ hKK hSS hS hA hP hD [0, 1] (by decide) rfl rfl rfl 0 rfl rfl hl.1 rfl (Nat.le_of_ble_eq_true rfl) dX5_readNumber_136) hP hD hS hA [0, 1] [] [0, 1] rfl rfl (by decide) (by decide) (by decide) (fun _ => rfl) (fun  u H locs hw hP hD hS => ?_)
                obtain ⟨xg2_31, xf2_32⟩ := u
                obtain ⟨hw0, hw1⟩ := hw
                replace hw0 := hw0.symm; subst hw0
                replace hw1 := hw1.symm; subst hw1
                have hP : va_P G.1 vwCl [(e0, .inr (5, [.ref e01, .int xl, .int (if xg = 0 then xa2_6 else xf), .int (if xg = 0 then 2 else xg), .int ge04_7, .int xa2_6, .int xr, .int xn])), aB G e01 400 xb] H := hP
                have hD : va_D A [(e0, .inr (5, [.ref e01, .int xl, .int (if xg = 0 then xa2_6 else xf), .int (if xg = 0 then 2 else xg), .int ge04_7, .int xa2_6, .int xr, .int xn])), aB G e01 400 xb] := hD
                refine lv_iload_n hx hb dX5_readNumber_139 rfl (lv_at hl 0 rfl) ?_
                exact x_iret (v := x3_8) (ge04_7, xa2_6, (if xg = 0 then 2 else xg), (if xg = 0 then xa2_6 else xf)) hQ hx hb hr hlocks hS dX5_readNumber_140 hv hP hD
              · have hv := hv.2 hc_29
                refine lv_iload_n hx hb dX5_readNumber_125 rfl (lv_at hl 0 rfl) ?_
                refine lv_iload_n hx hb dX5_readNumber_126 rfl (lv_at hl 2 rfl) ?_
                refine lv_iload_n hx hb dX5_readNumber_127 rfl (lv_at hl 3 rfl) ?_
                refine x_calliR (x_runSN (As := [.int x3_8, .int x, .int y]) (rest := []) (n := 3) ⟨hx, hb, hml, hown, hts⟩ (k_X7_within l G  _ x3_8 x y) gX5_readNumber_X7_within_n135 rfl kn_iRX7 kn_sX7_within (by decide) (by decide +kernel) ⟨Nat.le_trans (Nat.le_of_ble_eq_true rfl) hRf, Nat.le_trans (Nat.le_of_ble_eq_true rfl) hRl⟩ hKK hSS hS hA hP hD [] (by decide) rfl rfl hl.1 rfl (Nat.le_of_ble_eq_true rfl) dX5_readNumber_128) hP hD hS hA [] rfl (fun r_33 _ H locs hw hP hS => ?_)
                replace hw := hw.symm; subst hw
                refine lv_if_ne (tgt := 139) hx hb dX5_readNumber_131 (by decide) (fun hc_34 => ?_) (fun hc_34 => ?_)
                · have hv := hv.1 (tv_eqn.mp hc_34)
                  refine lv_iload_n hx hb dX5_readNumber_139 rfl (lv_at hl 0 rfl) ?_
                  exact x_iret (v := x3_8) (ge04_7, xa2_6, xg, xf) hQ hx hb hr hlocks hS dX5_readNumber_140 hv hP hD
                · have hv := hv.2 (tv_eq.mp hc_34)
                  refine lv_aload_n hx hb dX5_readNumber_134 rfl (lv_at hl 1 rfl) ?_
                  refine lv_iconst (v := 2) hx hb dX5_readNumber_135 (by decide) ?_
                  refine x_callv (wr := []) (w' := fun (u : (Int32) × (Int32)) => [(e0, .inr (5, [.ref e01, .int xl, .int u.2, .int u.1, .int ge04_7, .int xa2_6, .int xr, .int xn])), aB G e01 400 xb]) (x_runV (As := [.int 2]) (rest := []) (n := 1) (C := RX5) (ci := 5) ⟨hx, hb, hml, hown, hts⟩ (k_X5_fail l G e0 e01 _ xb xl xf xg ge04_7 xa2_6 xr xn 2) gX5_readNumber_X5_fail rfl (by decide +kernel) ⟨Nat.le_trans (Nat.le_of_ble_eq_true rfl) hRf, Nat.le_trans (Nat.le_of_ble_eq_true rfl) hRl⟩ hKK hSS hS hA hP hD [0, 1] (by decide) rfl rfl rfl 0 rfl rfl hl.1 rfl (Nat.le_of_ble_eq_true rfl) dX5_readNumber_136) hP hD hS hA [0, 1] [] [0, 1] rfl rfl (by decide) (by decide) (by decide) (fun _ => rfl) (fun  u H locs hw hP hD hS => ?_)
                  obtain ⟨xg2_36, xf2_37⟩ := u
                  obtain ⟨hw0, hw1⟩ := hw
                  replace hw0 := hw0.symm; subst hw0
                  replace hw1 := hw1.symm; subst hw1
                  have hP : va_P G.1 vwCl [(e0, .inr (5, [.ref e01, .int xl, .int (if xg = 0 then xa2_6 else xf), .int (if xg = 0 then 2 else xg), .int ge04_7, .int xa2_6, .int xr, .int xn])), aB G e01 400 xb] H := hP
                  have hD : va_D A [(e0, .inr (5, [.ref e01, .int xl, .int (if xg = 0 then xa2_6 else xf), .int (if xg = 0 then 2 else xg), .int ge04_7, .int xa2_6, .int xr, .int xn])), aB G e01 400 xb] := hD
                  refine lv_iload_n hx hb dX5_readNumber_139 rfl (lv_at hl 0 rfl) ?_
                  exact x_iret (v := x3_8) (ge04_7, xa2_6, (if xg = 0 then 2 else xg), (if xg = 0 then xa2_6 else xf)) hQ hx hb hr hlocks hS dX5_readNumber_140 hv hP hD
            · have hv := hv.2 hc_28
              refine lv_aload_n hx hb dX5_readNumber_104 rfl (lv_at hl 1 rfl) ?_
              refine lv_iconst (v := 1) hx hb dX5_readNumber_105 (by decide) ?_
              refine x_callv (wr := []) (w' := fun (u : (Int32) × (Int32)) => [(e0, .inr (5, [.ref e01, .int xl, .int u.2, .int u.1, .int ge04_7, .int xa2_6, .int xr, .int xn])), aB G e01 400 xb]) (x_runV (As := [.int 1]) (rest := []) (n := 1) (C := RX5) (ci := 5) ⟨hx, hb, hml, hown, hts⟩ (k_X5_fail l G e0 e01 _ xb xl xf xg ge04_7 xa2_6 xr xn 1) gX5_readNumber_X5_fail rfl (by decide +kernel) ⟨Nat.le_trans (Nat.le_of_ble_eq_true rfl) hRf, Nat.le_trans (Nat.le_of_ble_eq_true rfl) hRl⟩ hKK hSS hS hA hP hD [0, 1] (by decide) rfl rfl rfl 0 rfl rfl hl.1 rfl (Nat.le_of_ble_eq_true rfl) dX5_readNumber_106) hP hD hS hA [0, 1] [] [0, 1] rfl rfl (by decide) (by decide) (by decide) (fun _ => rfl) (fun  u H locs hw hP hD hS => ?_)
              obtain ⟨xg2_39, xf2_40⟩ := u
              obtain ⟨hw0, hw1⟩ := hw
              replace hw0 := hw0.symm; subst hw0
              replace hw1 := hw1.symm; subst hw1
              have hP : va_P G.1 vwCl [(e0, .inr (5, [.ref e01, .int xl, .int (if xg = 0 then xa2_6 else xf), .int (if xg = 0 then 1 else xg), .int ge04_7, .int xa2_6, .int xr, .int xn])), aB G e01 400 xb] H := hP
              have hD : va_D A [(e0, .inr (5, [.ref e01, .int xl, .int (if xg = 0 then xa2_6 else xf), .int (if xg = 0 then 1 else xg), .int ge04_7, .int xa2_6, .int xr, .int xn])), aB G e01 400 xb] := hD
              refine lv_goto (tgt := 139) hx hb dX5_readNumber_109 (by decide) ?_
              refine lv_iload_n hx hb dX5_readNumber_139 rfl (lv_at hl 0 rfl) ?_
              exact x_iret (v := x3_8) (ge04_7, xa2_6, (if xg = 0 then 1 else xg), (if xg = 0 then xa2_6 else xf)) hQ hx hb hr hlocks hS dX5_readNumber_140 hv hP hD
          · have hv := hv.2 hc_27
            refine lv_aload_n hx hb dX5_readNumber_48 rfl (lv_at hl 1 rfl) ?_
            refine va_get (D := G.1) (ci := 5) (v := .ref e01) (C := RX5) (T := TX5) (N := 8) hx hb hts hinX5 hown hKK.1 hP 0 rfl rfl 0 (by decide) kl9 (fun _ h9 => h9) rfl dX5_readNumber_49 ?_
            refine lv_aload_n hx hb dX5_readNumber_52 rfl (lv_at hl 1 rfl) ?_
            refine va_get (D := G.1) (ci := 5) (v := .int ge04_7) (C := RX5) (T := TX5) (N := 8) hx hb hts hinX5 hown hKK.1 hP 0 rfl rfl 4 (by decide) kl22 (fun _ h9 => h9) rfl dX5_readNumber_53 ?_
            obtain ⟨hin, hv⟩ := hv
            refine va_bald hx hb hKK.1 hP 1 1 rfl rfl hin dX5_readNumber_56 ?_
            refine lv_bipush (v := 57) hx hb dX5_readNumber_57 (by decide) ?_
            refine lv_icmp_gt (tgt := 93) hx hb dX5_readNumber_59 (by decide) (fun hc_41 => ?_) (fun hc_41 => ?_)
            · have hv := hv.1 hc_41
              refine lv_aload_n hx hb dX5_readNumber_93 rfl (lv_at hl 1 rfl) ?_
              refine va_get (D := G.1) (ci := 5) (v := .int ge04_7) (C := RX5) (T := TX5) (N := 8) hx hb hts hinX5 hown hKK.1 hP 0 rfl rfl 4 (by decide) kl22 (fun _ h9 => h9) rfl dX5_readNumber_94 ?_
              refine lv_aload_n hx hb dX5_readNumber_97 rfl (lv_at hl 1 rfl) ?_
              refine va_get (D := G.1) (ci := 5) (v := .int xa2_6) (C := RX5) (T := TX5) (N := 8) hx hb hts hinX5 hown hKK.1 hP 0 rfl rfl 5 (by decide) kl124 (fun _ h9 => h9) rfl dX5_readNumber_98 ?_
              refine lv_icmp_ne (tgt := 112) hx hb dX5_readNumber_101 (by decide) (fun hc_42 => ?_) (fun hc_42 => ?_)
              · have hv := hv.1 hc_42
                refine lv_aload_n hx hb dX5_readNumber_112 rfl (lv_at hl 1 rfl) ?_
                refine va_get (D := G.1) (ci := 5) (v := .int ge04_7) (C := RX5) (T := TX5) (N := 8) hx hb hts hinX5 hown hKK.1 hP 0 rfl rfl 4 (by decide) kl22 (fun _ h9 => h9) rfl dX5_readNumber_113 ?_
                refine lv_aload_n hx hb dX5_readNumber_116 rfl (lv_at hl 1 rfl) ?_
                refine va_get (D := G.1) (ci := 5) (v := .int xa2_6) (C := RX5) (T := TX5) (N := 8) hx hb hts hinX5 hown hKK.1 hP 0 rfl rfl 5 (by decide) kl124 (fun _ h9 => h9) rfl dX5_readNumber_117 ?_
                refine lv_isub hx hb dX5_readNumber_120 ?_
                refine lv_iconst (v := 4) hx hb dX5_readNumber_121 (by decide) ?_
                refine lv_icmp_gt (tgt := 134) hx hb dX5_readNumber_122 (by decide) (fun hc_43 => ?_) (fun hc_43 => ?_)
                · have hv := hv.1 hc_43
                  refine lv_aload_n hx hb dX5_readNumber_134 rfl (lv_at hl 1 rfl) ?_
                  refine lv_iconst (v := 2) hx hb dX5_readNumber_135 (by decide) ?_
                  refine x_callv (wr := []) (w' := fun (u : (Int32) × (Int32)) => [(e0, .inr (5, [.ref e01, .int xl, .int u.2, .int u.1, .int ge04_7, .int xa2_6, .int xr, .int xn])), aB G e01 400 xb]) (x_runV (As := [.int 2]) (rest := []) (n := 1) (C := RX5) (ci := 5) ⟨hx, hb, hml, hown, hts⟩ (k_X5_fail l G e0 e01 _ xb xl xf xg ge04_7 xa2_6 xr xn 2) gX5_readNumber_X5_fail rfl (by decide +kernel) ⟨Nat.le_trans (Nat.le_of_ble_eq_true rfl) hRf, Nat.le_trans (Nat.le_of_ble_eq_true rfl) hRl⟩ hKK hSS hS hA hP hD [0, 1] (by decide) rfl rfl rfl 0 rfl rfl hl.1 rfl (Nat.le_of_ble_eq_true rfl) dX5_readNumber_136) hP hD hS hA [0, 1] [] [0, 1] rfl rfl (by decide) (by decide) (by decide) (fun _ => rfl) (fun  u H locs hw hP hD hS => ?_)
                  obtain ⟨xg2_45, xf2_46⟩ := u
                  obtain ⟨hw0, hw1⟩ := hw
                  replace hw0 := hw0.symm; subst hw0
                  replace hw1 := hw1.symm; subst hw1
                  have hP : va_P G.1 vwCl [(e0, .inr (5, [.ref e01, .int xl, .int (if xg = 0 then xa2_6 else xf), .int (if xg = 0 then 2 else xg), .int ge04_7, .int xa2_6, .int xr, .int xn])), aB G e01 400 xb] H := hP
                  have hD : va_D A [(e0, .inr (5, [.ref e01, .int xl, .int (if xg = 0 then xa2_6 else xf), .int (if xg = 0 then 2 else xg), .int ge04_7, .int xa2_6, .int xr, .int xn])), aB G e01 400 xb] := hD
                  refine lv_iload_n hx hb dX5_readNumber_139 rfl (lv_at hl 0 rfl) ?_
                  exact x_iret (v := x3_8) (ge04_7, xa2_6, (if xg = 0 then 2 else xg), (if xg = 0 then xa2_6 else xf)) hQ hx hb hr hlocks hS dX5_readNumber_140 hv hP hD
                · have hv := hv.2 hc_43
                  refine lv_iload_n hx hb dX5_readNumber_125 rfl (lv_at hl 0 rfl) ?_
                  refine lv_iload_n hx hb dX5_readNumber_126 rfl (lv_at hl 2 rfl) ?_
                  refine lv_iload_n hx hb dX5_readNumber_127 rfl (lv_at hl 3 rfl) ?_
                  refine x_calliR (x_runSN (As := [.int x3_8, .int x, .int y]) (rest := []) (n := 3) ⟨hx, hb, hml, hown, hts⟩ (k_X7_within l G  _ x3_8 x y) gX5_readNumber_X7_within_n135 rfl kn_iRX7 kn_sX7_within (by decide) (by decide +kernel) ⟨Nat.le_trans (Nat.le_of_ble_eq_true rfl) hRf, Nat.le_trans (Nat.le_of_ble_eq_true rfl) hRl⟩ hKK hSS hS hA hP hD [] (by decide) rfl rfl hl.1 rfl (Nat.le_of_ble_eq_true rfl) dX5_readNumber_128) hP hD hS hA [] rfl (fun r_47 _ H locs hw hP hS => ?_)
                  replace hw := hw.symm; subst hw
                  refine lv_if_ne (tgt := 139) hx hb dX5_readNumber_131 (by decide) (fun hc_48 => ?_) (fun hc_48 => ?_)
                  · have hv := hv.1 (tv_eqn.mp hc_48)
                    refine lv_iload_n hx hb dX5_readNumber_139 rfl (lv_at hl 0 rfl) ?_
                    exact x_iret (v := x3_8) (ge04_7, xa2_6, xg, xf) hQ hx hb hr hlocks hS dX5_readNumber_140 hv hP hD
                  · have hv := hv.2 (tv_eq.mp hc_48)
                    refine lv_aload_n hx hb dX5_readNumber_134 rfl (lv_at hl 1 rfl) ?_
                    refine lv_iconst (v := 2) hx hb dX5_readNumber_135 (by decide) ?_
                    refine x_callv (wr := []) (w' := fun (u : (Int32) × (Int32)) => [(e0, .inr (5, [.ref e01, .int xl, .int u.2, .int u.1, .int ge04_7, .int xa2_6, .int xr, .int xn])), aB G e01 400 xb]) (x_runV (As := [.int 2]) (rest := []) (n := 1) (C := RX5) (ci := 5) ⟨hx, hb, hml, hown, hts⟩ (k_X5_fail l G e0 e01 _ xb xl xf xg ge04_7 xa2_6 xr xn 2) gX5_readNumber_X5_fail rfl (by decide +kernel) ⟨Nat.le_trans (Nat.le_of_ble_eq_true rfl) hRf, Nat.le_trans (Nat.le_of_ble_eq_true rfl) hRl⟩ hKK hSS hS hA hP hD [0, 1] (by decide) rfl rfl rfl 0 rfl rfl hl.1 rfl (Nat.le_of_ble_eq_true rfl) dX5_readNumber_136) hP hD hS hA [0, 1] [] [0, 1] rfl rfl (by decide) (by decide) (by decide) (fun _ => rfl) (fun  u H locs hw hP hD hS => ?_)
                    obtain ⟨xg2_50, xf2_51⟩ := u
                    obtain ⟨hw0, hw1⟩ := hw
                    replace hw0 := hw0.symm; subst hw0
                    replace hw1 := hw1.symm; subst hw1
                    have hP : va_P G.1 vwCl [(e0, .inr (5, [.ref e01, .int xl, .int (if xg = 0 then xa2_6 else xf), .int (if xg = 0 then 2 else xg), .int ge04_7, .int xa2_6, .int xr, .int xn])), aB G e01 400 xb] H := hP
                    have hD : va_D A [(e0, .inr (5, [.ref e01, .int xl, .int (if xg = 0 then xa2_6 else xf), .int (if xg = 0 then 2 else xg), .int ge04_7, .int xa2_6, .int xr, .int xn])), aB G e01 400 xb] := hD
                    refine lv_iload_n hx hb dX5_readNumber_139 rfl (lv_at hl 0 rfl) ?_
                    exact x_iret (v := x3_8) (ge04_7, xa2_6, (if xg = 0 then 2 else xg), (if xg = 0 then xa2_6 else xf)) hQ hx hb hr hlocks hS dX5_readNumber_140 hv hP hD
              · have hv := hv.2 hc_42
                refine lv_aload_n hx hb dX5_readNumber_104 rfl (lv_at hl 1 rfl) ?_
                refine lv_iconst (v := 1) hx hb dX5_readNumber_105 (by decide) ?_
                refine x_callv (wr := []) (w' := fun (u : (Int32) × (Int32)) => [(e0, .inr (5, [.ref e01, .int xl, .int u.2, .int u.1, .int ge04_7, .int xa2_6, .int xr, .int xn])), aB G e01 400 xb]) (x_runV (As := [.int 1]) (rest := []) (n := 1) (C := RX5) (ci := 5) ⟨hx, hb, hml, hown, hts⟩ (k_X5_fail l G e0 e01 _ xb xl xf xg ge04_7 xa2_6 xr xn 1) gX5_readNumber_X5_fail rfl (by decide +kernel) ⟨Nat.le_trans (Nat.le_of_ble_eq_true rfl) hRf, Nat.le_trans (Nat.le_of_ble_eq_true rfl) hRl⟩ hKK hSS hS hA hP hD [0, 1] (by decide) rfl rfl rfl 0 rfl rfl hl.1 rfl (Nat.le_of_ble_eq_true rfl) dX5_readNumber_106) hP hD hS hA [0, 1] [] [0, 1] rfl rfl (by decide) (by decide) (by decide) (fun _ => rfl) (fun  u H locs hw hP hD hS => ?_)
                obtain ⟨xg2_53, xf2_54⟩ := u
                obtain ⟨hw0, hw1⟩ := hw
                replace hw0 := hw0.symm; subst hw0
                replace hw1 := hw1.symm; subst hw1
                have hP : va_P G.1 vwCl [(e0, .inr (5, [.ref e01, .int xl, .int (if xg = 0 then xa2_6 else xf), .int (if xg = 0 then 1 else xg), .int ge04_7, .int xa2_6, .int xr, .int xn])), aB G e01 400 xb] H := hP
                have hD : va_D A [(e0, .inr (5, [.ref e01, .int xl, .int (if xg = 0 then xa2_6 else xf), .int (if xg = 0 then 1 else xg), .int ge04_7, .int xa2_6, .int xr, .int xn])), aB G e01 400 xb] := hD
                refine lv_goto (tgt := 139) hx hb dX5_readNumber_109 (by decide) ?_
                refine lv_iload_n hx hb dX5_readNumber_139 rfl (lv_at hl 0 rfl) ?_
                exact x_iret (v := x3_8) (ge04_7, xa2_6, (if xg = 0 then 1 else xg), (if xg = 0 then xa2_6 else xf)) hQ hx hb hr hlocks hS dX5_readNumber_140 hv hP hD
            · have hv := hv.2 hc_41
              refine lv_bipush (v := 10) hx hb dX5_readNumber_62 (by decide) ?_
              refine lv_iload_n hx hb dX5_readNumber_64 rfl (lv_at hl 0 rfl) ?_
              refine lv_imul hx hb dX5_readNumber_65 ?_
              refine lv_aload_n hx hb dX5_readNumber_66 rfl (lv_at hl 1 rfl) ?_
              refine va_get (D := G.1) (ci := 5) (v := .ref e01) (C := RX5) (T := TX5) (N := 8) hx hb hts hinX5 hown hKK.1 hP 0 rfl rfl 0 (by decide) kl9 (fun _ h9 => h9) rfl dX5_readNumber_67 ?_
              refine lv_aload_n hx hb dX5_readNumber_70 rfl (lv_at hl 1 rfl) ?_
              refine va_get (D := G.1) (ci := 5) (v := .int ge04_7) (C := RX5) (T := TX5) (N := 8) hx hb hts hinX5 hown hKK.1 hP 0 rfl rfl 4 (by decide) kl22 (fun _ h9 => h9) rfl dX5_readNumber_71 ?_
              obtain ⟨hin, hv⟩ := hv
              refine va_bald hx hb hKK.1 hP 1 1 rfl rfl hin dX5_readNumber_74 ?_
              refine lv_iadd hx hb dX5_readNumber_75 ?_
              refine lv_bipush (v := 48) hx hb dX5_readNumber_76 (by decide) ?_
              refine lv_isub hx hb dX5_readNumber_78 ?_
              refine lv_istore_n (lv' := [(3, .int (((10 * x3_8) + (xb ge04_7.toNatClampNeg)) - 48)), (0, .ref e0), (1, .int x), (2, .int y)]) hx hb dX5_readNumber_79 rfl hl (by decide) rfl (fun ls hl => ?_)
              refine lv_aload_n hx hb dX5_readNumber_80 rfl (lv_at hl 1 rfl) ?_
              refine lv_dup hx hb dX5_readNumber_81 rfl ?_
              refine va_get (D := G.1) (ci := 5) (v := .int ge04_7) (C := RX5) (T := TX5) (N := 8) hx hb hts hinX5 hown hKK.1 hP 0 rfl rfl 4 (by decide) kl22 (fun _ h9 => h9) rfl dX5_readNumber_82 ?_
              refine lv_iconst (v := 1) hx hb dX5_readNumber_85 (by decide) ?_
              refine lv_iadd hx hb dX5_readNumber_86 ?_
              refine va_put (D := G.1) (ci := 5) (v := .int (ge04_7 + 1)) (ty := .int) (C := RX5) (T := TX5) (N := 8) hx hb hts hinX5 tyX5 tyX5_ok nmX5 hown hKK.1 hP hD hS 0 rfl rfl 4 (by decide) kl22 (fun _ h9 => h9) rfl (by decide +kernel) rfl rfl (Nat.le_of_ble_eq_true rfl) dX5_readNumber_87 (fun H locs hP hD hS => ?_)
              have hP : va_P G.1 vwCl [(e0, .inr (5, [.ref e01, .int xl, .int xf, .int xg, .int (ge04_7 + 1), .int xa2_6, .int xr, .int xn])), aB G e01 400 xb] H := hP
              have hD : va_D A [(e0, .inr (5, [.ref e01, .int xl, .int xf, .int xg, .int (ge04_7 + 1), .int xa2_6, .int xr, .int xn])), aB G e01 400 xb] := hD
              refine lv_goto (tgt := 23) hx hb dX5_readNumber_90 (by decide) ?_
              exact ih_11 _ _ _ _ _ (Nat.lt_of_lt_of_le hv.2 (Nat.le_of_lt_succ hI_12)) hv.1 hP hD hS hl
    exact Lm_57 _ _ _ _ _ _ (Nat.lt_succ_self _) hi0 hP hD hS hl
  · have hv := hv.2 hc_1
    refine lv_iload_n hx hb dX5_readNumber_7 rfl (lv_at hl 1 rfl) ?_
    exact x_iret (v := x) (xa, xt, xg, xf) hQ hx hb hr hlocks hS dX5_readNumber_8 hv hP hD
theorem v_X5_readNumber (l : Launch) (G : Gt) (e0 e01 : Nat) (sz : Nat) (xb : Nat → Int32) (xl : Int32) (xf : Int32) (xg : Int32) (xa : Int32) (xt : Int32) (xr : Int32) (xn : Int32) (x : Int32) (y : Int32) (B : Nat → Int) (L : Nat) (st : Flt ⊕ Nat) (hp : CX B L xb xl ∧ CSs L st xg xf xa) : (xg = 0 → ∃ (gB_2 : Nat → Int) (gL_3 : Nat) (gaq_4 : Nat), ((CX gB_2 gL_3 xb xl ∧ xa = nI gaq_4 ∧ gaq_4 ≤ gL_3) ∧ (∀ (xa2_6 : Int32), (xa2_6 = nI (sk gB_2 gL_3 gaq_4)) → (∃ (I23_9 : Int32 → Int32 → Prop) (μ23_10 : Int32 → Int32 → Nat), I23_9 xa2_6 0 ∧ (∀ (ge04_7 : Int32) (x3_8 : Int32), I23_9 ge04_7 x3_8 → (xl ≤ ge04_7 → (¬ ge04_7 = xa2_6 → (4 < (ge04_7 - xa2_6) → CSn L (bnd st (nuR B L x.toInt y.toInt)) x3_8 (if xg = 0 then 2 else xg) (if xg = 0 then xa2_6 else xf) ge04_7 xa2_6) ∧ (¬ (4 < (ge04_7 - xa2_6)) → (¬ x3_8 < x ∧ ¬ y < x3_8 → CSn L (bnd st (nuR B L x.toInt y.toInt)) x3_8 xg xf ge04_7 xa2_6) ∧ (¬ (¬ x3_8 < x ∧ ¬ y < x3_8) → CSn L (bnd st (nuR B L x.toInt y.toInt)) x3_8 (if xg = 0 then 2 else xg) (if xg = 0 then xa2_6 else xf) ge04_7 xa2_6))) ∧ (ge04_7 = xa2_6 → CSn L (bnd st (nuR B L x.toInt y.toInt)) x3_8 (if xg = 0 then 1 else xg) (if xg = 0 then xa2_6 else xf) ge04_7 xa2_6)) ∧ (¬ (xl ≤ ge04_7) → (vp_in ge04_7 400) ∧ (((xb ge04_7.toNatClampNeg) < 48 → (¬ ge04_7 = xa2_6 → (4 < (ge04_7 - xa2_6) → CSn L (bnd st (nuR B L x.toInt y.toInt)) x3_8 (if xg = 0 then 2 else xg) (if xg = 0 then xa2_6 else xf) ge04_7 xa2_6) ∧ (¬ (4 < (ge04_7 - xa2_6)) → (¬ x3_8 < x ∧ ¬ y < x3_8 → CSn L (bnd st (nuR B L x.toInt y.toInt)) x3_8 xg xf ge04_7 xa2_6) ∧ (¬ (¬ x3_8 < x ∧ ¬ y < x3_8) → CSn L (bnd st (nuR B L x.toInt y.toInt)) x3_8 (if xg = 0 then 2 else xg) (if xg = 0 then xa2_6 else xf) ge04_7 xa2_6))) ∧ (ge04_7 = xa2_6 → CSn L (bnd st (nuR B L x.toInt y.toInt)) x3_8 (if xg = 0 then 1 else xg) (if xg = 0 then xa2_6 else xf) ge04_7 xa2_6)) ∧ (¬ ((xb ge04_7.toNatClampNeg) < 48) → (vp_in ge04_7 400) ∧ ((57 < (xb ge04_7.toNatClampNeg) → (¬ ge04_7 = xa2_6 → (4 < (ge04_7 - xa2_6) → CSn L (bnd st (nuR B L x.toInt y.toInt)) x3_8 (if xg = 0 then 2 else xg) (if xg = 0 then xa2_6 else xf) ge04_7 xa2_6) ∧ (¬ (4 < (ge04_7 - xa2_6)) → (¬ x3_8 < x ∧ ¬ y < x3_8 → CSn L (bnd st (nuR B L x.toInt y.toInt)) x3_8 xg xf ge04_7 xa2_6) ∧ (¬ (¬ x3_8 < x ∧ ¬ y < x3_8) → CSn L (bnd st (nuR B L x.toInt y.toInt)) x3_8 (if xg = 0 then 2 else xg) (if xg = 0 then xa2_6 else xf) ge04_7 xa2_6))) ∧ (ge04_7 = xa2_6 → CSn L (bnd st (nuR B L x.toInt y.toInt)) x3_8 (if xg = 0 then 1 else xg) (if xg = 0 then xa2_6 else xf) ge04_7 xa2_6)) ∧ (¬ (57 < (xb ge04_7.toNatClampNeg)) → (vp_in ge04_7 400) ∧ (I23_9 (ge04_7 + 1) (((10 * x3_8) + (xb ge04_7.toNatClampNeg)) - 48) ∧ μ23_10 (ge04_7 + 1) (((10 * x3_8) + (xb ge04_7.toNatClampNeg)) - 48) < μ23_10 ge04_7 x3_8))))))))))) ∧ (¬ (xg = 0) → CSn L (bnd st (nuR B L x.toInt y.toInt)) x xg xf xa xt) := by
  obtain ⟨hX, hS⟩ := hp
  have hL := hX.1
  have hxl := hX.2.1
  cases st with
  | inl f =>
    have h : CSf L f xg xf xa := hS
    exact ⟨fun q => absurd q h.ne, fun _ => h⟩
  | inr aq =>
    obtain ⟨ha, rfl, rfl, rfl⟩ := hS
    have hs := sk_L (B := B) ha
    refine ⟨fun _ => ⟨B, L, aq, ⟨hX, rfl, ha⟩, fun z hz => ?_⟩, fun q => absurd rfl q⟩
    subst hz
    simp only [if_true]
    refine ⟨fun z v => ∃ e, z = nI e ∧ e ≤ L ∧ sk B L aq ≤ e ∧ dE B L e = dE B L (sk B L aq) ∧ (e - sk B L aq ≤ 4 → v.toInt = vaZ B (sk B L aq) (e - sk B L aq)) ∧ ∀ i, sk B L aq ≤ i → i < e → isDi B i = true, fun z _ => 401 - z.toNatClampNeg, ⟨sk B L aq, rfl, hs, Nat.le_refl _, rfl, fun _ => by rw [Nat.sub_self]; rfl, fun i h1 h2 => absurd h2 (by omega)⟩, ?_⟩
    rintro z v ⟨e, rfl, heL, hte, hd, hv, hall⟩
    have ea : (nI e).toNatClampNeg = e := nI_clamp (by omega)
    have ea1 : nI e + 1 = nI (e + 1) := nI_1 e
    have ea2 : (nI (e + 1)).toNatClampNeg = e + 1 := nI_clamp (by omega)
    have hle : nI L ≤ nI e ↔ L ≤ e := nI_leI (by omega) (by omega)
    simp only [ea, ea1, ea2, hxl, hle]
    have v4 : e < 400 → vp_in (nI e) 400 := fun h => vp_in_nI (by omega) (by omega)
    refine ⟨fun q => ?_, fun q => ⟨v4 (by omega), fun h1 => ?_, fun h1 => ⟨v4 (by omega), fun h2 => ?_, fun h2 => ⟨v4 (by omega), ?_, by omega⟩⟩⟩⟩
    · have hst : ¬ (e < L ∧ isDi B e = true) := fun z => absurd z.1 (by omega)
      have hE : dE B L (sk B L aq) = e := by rw [← hd]; unfold dE; rw [run_end hst]
      have e1 : nI e = nI (sk B L aq) ↔ e = sk B L aq := nI_eqI (by omega) (by omega)
      have e2 : (4 : Int32) < nI e - nI (sk B L aq) ↔ 4 < e - sk B L aq := by rw [nI_sub hte (by omega)]; exact nI_ltI (a := 4) (by omega) (by omega)
      rw [e1, e2]
      refine ⟨fun n1 => ⟨fun n2 => ?_, fun n2 => ?_⟩, fun n1 => ?_⟩
      · show CSn L (nuR B L x.toInt y.toInt aq) _ _ _ _ _
        rw [nuR, hE, if_neg n1, if_pos (Or.inl n2)]
        exact CSf.mk (f := 2) (by decide) (by decide) heL
      · have ev := hv (by omega)
        have hw_ : (¬ v < x ∧ ¬ y < v) ↔ (x.toInt ≤ vaZ B (sk B L aq) (e - sk B L aq) ∧ vaZ B (sk B L aq) (e - sk B L aq) ≤ y.toInt) := by
          rw [wi_iff (x := v) (y := x) (z := y) rfl rfl, ev]
        rw [hw_]
        refine ⟨fun n3 => ?_, fun n3 => ?_⟩
        · show CSn L (nuR B L x.toInt y.toInt aq) _ _ _ _ _
          rw [nuR, hE, if_neg n1, if_neg (fun z => z.elim n2 (fun z => z n3))]
          exact ⟨⟨heL, rfl, rfl, rfl⟩, rfl, ev⟩
        · show CSn L (nuR B L x.toInt y.toInt aq) _ _ _ _ _
          rw [nuR, hE, if_neg n1, if_pos (Or.inr n3)]
          exact CSf.mk (f := 2) (by decide) (by decide) heL
      · show CSn L (nuR B L x.toInt y.toInt aq) _ _ _ _ _
        rw [nuR, hE, if_pos n1]
        exact CSf.mk (f := 1) (by decide) (by decide) heL
    · have hb := hX.rg (i := e) (by omega) 48 57 (by decide) (by decide)
      have hst : ¬ (e < L ∧ isDi B e = true) := fun z => (hb.mpr (of_decide_eq_true z.2)).1 h1
      have hE : dE B L (sk B L aq) = e := by rw [← hd]; unfold dE; rw [run_end hst]
      have e1 : nI e = nI (sk B L aq) ↔ e = sk B L aq := nI_eqI (by omega) (by omega)
      have e2 : (4 : Int32) < nI e - nI (sk B L aq) ↔ 4 < e - sk B L aq := by rw [nI_sub hte (by omega)]; exact nI_ltI (a := 4) (by omega) (by omega)
      rw [e1, e2]
      refine ⟨fun n1 => ⟨fun n2 => ?_, fun n2 => ?_⟩, fun n1 => ?_⟩
      · show CSn L (nuR B L x.toInt y.toInt aq) _ _ _ _ _
        rw [nuR, hE, if_neg n1, if_pos (Or.inl n2)]
        exact CSf.mk (f := 2) (by decide) (by decide) heL
      · have ev := hv (by omega)
        have hw_ : (¬ v < x ∧ ¬ y < v) ↔ (x.toInt ≤ vaZ B (sk B L aq) (e - sk B L aq) ∧ vaZ B (sk B L aq) (e - sk B L aq) ≤ y.toInt) := by
          rw [wi_iff (x := v) (y := x) (z := y) rfl rfl, ev]
        rw [hw_]
        refine ⟨fun n3 => ?_, fun n3 => ?_⟩
        · show CSn L (nuR B L x.toInt y.toInt aq) _ _ _ _ _
          rw [nuR, hE, if_neg n1, if_neg (fun z => z.elim n2 (fun z => z n3))]
          exact ⟨⟨heL, rfl, rfl, rfl⟩, rfl, ev⟩
        · show CSn L (nuR B L x.toInt y.toInt aq) _ _ _ _ _
          rw [nuR, hE, if_neg n1, if_pos (Or.inr n3)]
          exact CSf.mk (f := 2) (by decide) (by decide) heL
      · show CSn L (nuR B L x.toInt y.toInt aq) _ _ _ _ _
        rw [nuR, hE, if_pos n1]
        exact CSf.mk (f := 1) (by decide) (by decide) heL
    · have hb := hX.rg (i := e) (by omega) 48 57 (by decide) (by decide)
      have hst : ¬ (e < L ∧ isDi B e = true) := fun z => (hb.mpr (of_decide_eq_true z.2)).2 h2
      have hE : dE B L (sk B L aq) = e := by rw [← hd]; unfold dE; rw [run_end hst]
      have e1 : nI e = nI (sk B L aq) ↔ e = sk B L aq := nI_eqI (by omega) (by omega)
      have e2 : (4 : Int32) < nI e - nI (sk B L aq) ↔ 4 < e - sk B L aq := by rw [nI_sub hte (by omega)]; exact nI_ltI (a := 4) (by omega) (by omega)
      rw [e1, e2]
      refine ⟨fun n1 => ⟨fun n2 => ?_, fun n2 => ?_⟩, fun n1 => ?_⟩
      · show CSn L (nuR B L x.toInt y.toInt aq) _ _ _ _ _
        rw [nuR, hE, if_neg n1, if_pos (Or.inl n2)]
        exact CSf.mk (f := 2) (by decide) (by decide) heL
      · have ev := hv (by omega)
        have hw_ : (¬ v < x ∧ ¬ y < v) ↔ (x.toInt ≤ vaZ B (sk B L aq) (e - sk B L aq) ∧ vaZ B (sk B L aq) (e - sk B L aq) ≤ y.toInt) := by
          rw [wi_iff (x := v) (y := x) (z := y) rfl rfl, ev]
        rw [hw_]
        refine ⟨fun n3 => ?_, fun n3 => ?_⟩
        · show CSn L (nuR B L x.toInt y.toInt aq) _ _ _ _ _
          rw [nuR, hE, if_neg n1, if_neg (fun z => z.elim n2 (fun z => z n3))]
          exact ⟨⟨heL, rfl, rfl, rfl⟩, rfl, ev⟩
        · show CSn L (nuR B L x.toInt y.toInt aq) _ _ _ _ _
          rw [nuR, hE, if_neg n1, if_pos (Or.inr n3)]
          exact CSf.mk (f := 2) (by decide) (by decide) heL
      · show CSn L (nuR B L x.toInt y.toInt aq) _ _ _ _ _
        rw [nuR, hE, if_pos n1]
        exact CSf.mk (f := 1) (by decide) (by decide) heL
    · have hb := (hX.rg (i := e) (by omega) 48 57 (by decide) (by decide)).mp ⟨h1, h2⟩
      have hdi : isDi B e = true := decide_eq_true hb
      have hall2 : ∀ i, sk B L aq ≤ i → i < e + 1 → isDi B i = true := fun i g1 g2 => by
        by_cases u : i = e
        · rw [u]; exact hdi
        · exact hall i g1 (by omega)
      refine ⟨e + 1, rfl, by omega, by omega, ?_, fun h4 => ?_, hall2⟩
      · rw [← hd]
        exact run_go (by omega) hdi
      · have ev := hv (by omega)
        have bx := hX.at (i := e) (by omega)
        have bv := vaZ_4 (B := B) (t := sk B L aq) (k := e - sk B L aq) (by omega) (fun i hi => hall _ (by omega) (by omega))
        have es : sg (B e) = B e := by unfold sg; rw [if_pos]; have := hb.2; exact Int.lt_of_le_of_lt this (by decide)
        have hb1 : (48 : Int32).toInt ≤ B e := hb.1
        have hb2 : B e ≤ (57 : Int32).toInt := hb.2
        have c48 : (48 : Int32).toInt = 48 := rfl
        have c57 : (57 : Int32).toInt = 57 := rfl
        rw [show e + 1 - sk B L aq = e - sk B L aq + 1 by omega, vaZ, show sk B L aq + (e - sk B L aq) = e by omega]
        rw [i_sub (i_add (i_mul (show (10 : Int32).toInt = 10 from rfl) ev (by omega) (by omega)) (bx.2.2.trans es) (by omega) (by omega)) c48 (by omega) (by omega)]
        omega
theorem k_X5_readNumber (l : Launch) (G : Gt) (e0 e01 : Nat) (sz : Nat) (xb : Nat → Int32) (xl : Int32) (xf : Int32) (xg : Int32) (xa : Int32) (xt : Int32) (xr : Int32) (xn : Int32) (x : Int32) (y : Int32) (B : Nat → Int) (L : Nat) (st : Flt ⊕ Nat) (hp : CX B L xb xl ∧ CSs L st xg xf xa) : MetI l yX5_readNumber wsX5_readNumber 1 22 G [.ref e0, .int x, .int y] [(e0, .inr (5, [.ref e01, .int xl, .int xf, .int xg, .int xa, .int xt, .int xr, .int xn])), aB G e01 400 xb] sz (fun (r : Int32) (u : (Int32) × (Int32) × (Int32) × (Int32)) => CSn L (bnd st (nuR B L x.toInt y.toInt)) r u.2.2.1 u.2.2.2 u.1 u.2.1) (fun (u : (Int32) × (Int32) × (Int32) × (Int32)) => [(e0, .inr (5, [.ref e01, .int xl, .int u.2.2.2, .int u.2.2.1, .int u.1, .int u.2.1, .int xr, .int xn])), aB G e01 400 xb]) :=
  c_X5_readNumber l G e0 e01 sz xb xl xf xg xa xt xr xn x y B L st (v_X5_readNumber l G e0 e01 sz xb xl xf xg xa xt xr xn x y B L st hp)

set_option maxHeartbeats 4000000 in
set_option maxRecDepth 100000 in
theorem c_X5_readEnd (l : Launch) (G : Gt) (e0 e01 : Nat) (sz : Nat) (xb : Nat → Int32) (xl : Int32) (xf : Int32) (xg : Int32) (xa : Int32) (xt : Int32) (xr : Int32) (xn : Int32) (B : Nat → Int) (L : Nat) (st : Flt ⊕ Nat) (hv : (xg = 0 → ∃ (gB_2 : Nat → Int) (gL_3 : Nat) (gaq_4 : Nat), ((CX gB_2 gL_3 xb xl ∧ xa = nI gaq_4 ∧ gaq_4 ≤ gL_3) ∧ (∀ (xa2_6 : Int32), (xa2_6 = nI (sk gB_2 gL_3 gaq_4)) → ((xl ≤ xa2_6 → CSs L (bnd st (smR B L)) (if xg = 0 then 1 else xg) (if xg = 0 then xa2_6 else xf) xa2_6) ∧ (¬ (xl ≤ xa2_6) → (vp_in xa2_6 400) ∧ ((¬ (xb xa2_6.toNatClampNeg) = 59 → CSs L (bnd st (smR B L)) (if xg = 0 then 1 else xg) (if xg = 0 then xa2_6 else xf) xa2_6) ∧ ((xb xa2_6.toNatClampNeg) = 59 → CSs L (bnd st (smR B L)) xg xf (xa2_6 + 1)))))))) ∧ (¬ (xg = 0) → CSs L (bnd st (smR B L)) xg xf xa)) : MetV l yX5_readEnd wsX5_readEnd 1 21 G [.ref e0] [(e0, .inr (5, [.ref e01, .int xl, .int xf, .int xg, .int xa, .int xt, .int xr, .int xn])), aB G e01 400 xb] sz (fun (u : (Int32) × (Int32) × (Int32) × (Int32)) => CSs L (bnd st (smR B L)) u.2.2.1 u.2.2.2 u.1) (fun (u : (Int32) × (Int32) × (Int32) × (Int32)) => [(e0, .inr (5, [.ref e01, .int xl, .int u.2.2.2, .int u.2.2.1, .int u.1, .int u.2.1, .int xr, .int xn])), aB G e01 400 xb]) := by
  refine x_startV (cc := cX5_readEnd) (maxL := 1) (ret := none) (by decide) rfl (Nat.le_of_ble_eq_true rfl) ?_
  intro p e s m args below meth c A R Q ls hRf hRl hQ C hP hD hS hA hSS hl
  obtain ⟨hx, hb, hr, hml, hown, hts, hlocks, hKK⟩ := C
  have hown : s.vm.findClass RX5 = some m.cls := hown
  have hl : lv_has ls 1 [(0, .ref e0)] := hl
  have hinX5 : ∀ w ∈ u_ws RX5 TX5 8, w ∈ wsX5_readEnd := by decide +kernel
  have kl124 := hts (.fieldLink RX5 124 "WarmStones$Text" "tokenAt" "I") (by decide +kernel)
  have kl19 := hts (.fieldLink RX5 19 "WarmStones$Text" "length" "I") (by decide +kernel)
  have kl22 := hts (.fieldLink RX5 22 "WarmStones$Text" "at" "I") (by decide +kernel)
  have kl25 := hts (.fieldLink RX5 25 "WarmStones$Text" "fault" "I") (by decide +kernel)
  have kl9 := hts (.fieldLink RX5 9 "WarmStones$Text" "bytes" "[B") (by decide +kernel)
  refine lv_aload_n hx hb dX5_readEnd_0 rfl (lv_at hl 0 rfl) ?_
  refine va_get (D := G.1) (ci := 5) (v := .int xg) (C := RX5) (T := TX5) (N := 8) hx hb hts hinX5 hown hKK.1 hP 0 rfl rfl 3 (by decide) kl25 (fun _ h9 => h9) rfl dX5_readEnd_1 ?_
  refine lv_if_eq (tgt := 8) hx hb dX5_readEnd_4 (by decide) (fun hc_1 => ?_) (fun hc_1 => ?_)
  · have hv := hv.1 hc_1
    refine lv_aload_n hx hb dX5_readEnd_8 rfl (lv_at hl 0 rfl) ?_
    obtain ⟨gB_2, gL_3, gaq_4, hv⟩ := hv
    obtain ⟨hp, hv⟩ := hv
    refine x_callv (wr := []) (w' := fun (u : (Int32)) => [(e0, .inr (5, [.ref e01, .int xl, .int xf, .int xg, .int u, .int xt, .int xr, .int xn])), aB G e01 400 xb]) (x_runV (As := []) (rest := []) (n := 0) (C := RX5) (ci := 5) ⟨hx, hb, hml, hown, hts⟩ (k_X5_skipBlanks l G e0 e01 _ xb xl xf xg xa xt xr xn gB_2 gL_3 gaq_4 hp) gX5_readEnd_X5_skipBlanks rfl (by decide +kernel) ⟨Nat.le_trans (Nat.le_of_ble_eq_true rfl) hRf, Nat.le_trans (Nat.le_of_ble_eq_true rfl) hRl⟩ hKK hSS hS hA hP hD [0, 1] (by decide) rfl rfl rfl 0 rfl rfl hl.1 rfl (Nat.le_of_ble_eq_true rfl) dX5_readEnd_9) hP hD hS hA [0, 1] [] [0, 1] rfl rfl (by decide) (by decide) (by decide) (fun _ => rfl) (fun  u H locs hw hP hD hS => ?_)
    obtain ⟨xa2_6, rfl⟩ : ∃ z9_, z9_ = u := ⟨_, rfl⟩
    have hP : va_P G.1 vwCl [(e0, .inr (5, [.ref e01, .int xl, .int xf, .int xg, .int xa2_6, .int xt, .int xr, .int xn])), aB G e01 400 xb] H := hP
    have hD : va_D A [(e0, .inr (5, [.ref e01, .int xl, .int xf, .int xg, .int xa2_6, .int xt, .int xr, .int xn])), aB G e01 400 xb] := hD
    have hv := hv xa2_6 hw
    refine lv_aload_n hx hb dX5_readEnd_12 rfl (lv_at hl 0 rfl) ?_
    refine lv_aload_n hx hb dX5_readEnd_13 rfl (lv_at hl 0 rfl) ?_
    refine va_get (D := G.1) (ci := 5) (v := .int xa2_6) (C := RX5) (T := TX5) (N := 8) hx hb hts hinX5 hown hKK.1 hP 0 rfl rfl 4 (by decide) kl22 (fun _ h9 => h9) rfl dX5_readEnd_14 ?_
    refine va_put (D := G.1) (ci := 5) (v := .int xa2_6) (ty := .int) (C := RX5) (T := TX5) (N := 8) hx hb hts hinX5 tyX5 tyX5_ok nmX5 hown hKK.1 hP hD hS 0 rfl rfl 5 (by decide) kl124 (fun _ h9 => h9) rfl (by decide +kernel) rfl rfl (Nat.le_of_ble_eq_true rfl) dX5_readEnd_17 (fun H locs hP hD hS => ?_)
    have hP : va_P G.1 vwCl [(e0, .inr (5, [.ref e01, .int xl, .int xf, .int xg, .int xa2_6, .int xa2_6, .int xr, .int xn])), aB G e01 400 xb] H := hP
    have hD : va_D A [(e0, .inr (5, [.ref e01, .int xl, .int xf, .int xg, .int xa2_6, .int xa2_6, .int xr, .int xn])), aB G e01 400 xb] := hD
    refine lv_aload_n hx hb dX5_readEnd_20 rfl (lv_at hl 0 rfl) ?_
    refine va_get (D := G.1) (ci := 5) (v := .int xa2_6) (C := RX5) (T := TX5) (N := 8) hx hb hts hinX5 hown hKK.1 hP 0 rfl rfl 4 (by decide) kl22 (fun _ h9 => h9) rfl dX5_readEnd_21 ?_
    refine lv_aload_n hx hb dX5_readEnd_24 rfl (lv_at hl 0 rfl) ?_
    refine va_get (D := G.1) (ci := 5) (v := .int xl) (C := RX5) (T := TX5) (N := 8) hx hb hts hinX5 hown hKK.1 hP 0 rfl rfl 1 (by decide) kl19 (fun _ h9 => h9) rfl dX5_readEnd_25 ?_
    refine lv_icmp_ge (tgt := 58) hx hb dX5_readEnd_28 (by decide) (fun hc_7 => ?_) (fun hc_7 => ?_)
    · have hv := hv.1 hc_7
      refine lv_aload_n hx hb dX5_readEnd_58 rfl (lv_at hl 0 rfl) ?_
      refine lv_iconst (v := 1) hx hb dX5_readEnd_59 (by decide) ?_
      refine x_callv (wr := []) (w' := fun (u : (Int32) × (Int32)) => [(e0, .inr (5, [.ref e01, .int xl, .int u.2, .int u.1, .int xa2_6, .int xa2_6, .int xr, .int xn])), aB G e01 400 xb]) (x_runV (As := [.int 1]) (rest := []) (n := 1) (C := RX5) (ci := 5) ⟨hx, hb, hml, hown, hts⟩ (k_X5_fail l G e0 e01 _ xb xl xf xg xa2_6 xa2_6 xr xn 1) gX5_readEnd_X5_fail rfl (by decide +kernel) ⟨Nat.le_trans (Nat.le_of_ble_eq_true rfl) hRf, Nat.le_trans (Nat.le_of_ble_eq_true rfl) hRl⟩ hKK hSS hS hA hP hD [0, 1] (by decide) rfl rfl rfl 0 rfl rfl hl.1 rfl (Nat.le_of_ble_eq_true rfl) dX5_readEnd_60) hP hD hS hA [0, 1] [] [0, 1] rfl rfl (by decide) (by decide) (by decide) (fun _ => rfl) (fun  u H locs hw hP hD hS => ?_)
      obtain ⟨xg2_9, xf2_10⟩ := u
      obtain ⟨hw0, hw1⟩ := hw
      replace hw0 := hw0.symm; subst hw0
      replace hw1 := hw1.symm; subst hw1
      have hP : va_P G.1 vwCl [(e0, .inr (5, [.ref e01, .int xl, .int (if xg = 0 then xa2_6 else xf), .int (if xg = 0 then 1 else xg), .int xa2_6, .int xa2_6, .int xr, .int xn])), aB G e01 400 xb] H := hP
      have hD : va_D A [(e0, .inr (5, [.ref e01, .int xl, .int (if xg = 0 then xa2_6 else xf), .int (if xg = 0 then 1 else xg), .int xa2_6, .int xa2_6, .int xr, .int xn])), aB G e01 400 xb] := hD
      exact x_vret (xa2_6, xa2_6, (if xg = 0 then 1 else xg), (if xg = 0 then xa2_6 else xf)) hQ hx hb hr hlocks hS dX5_readEnd_63 hv hP hD
    · have hv := hv.2 hc_7
      refine lv_aload_n hx hb dX5_readEnd_31 rfl (lv_at hl 0 rfl) ?_
      refine va_get (D := G.1) (ci := 5) (v := .ref e01) (C := RX5) (T := TX5) (N := 8) hx hb hts hinX5 hown hKK.1 hP 0 rfl rfl 0 (by decide) kl9 (fun _ h9 => h9) rfl dX5_readEnd_32 ?_
      refine lv_aload_n hx hb dX5_readEnd_35 rfl (lv_at hl 0 rfl) ?_
      refine va_get (D := G.1) (ci := 5) (v := .int xa2_6) (C := RX5) (T := TX5) (N := 8) hx hb hts hinX5 hown hKK.1 hP 0 rfl rfl 4 (by decide) kl22 (fun _ h9 => h9) rfl dX5_readEnd_36 ?_
      obtain ⟨hin, hv⟩ := hv
      refine va_bald hx hb hKK.1 hP 1 1 rfl rfl hin dX5_readEnd_39 ?_
      refine lv_bipush (v := 59) hx hb dX5_readEnd_40 (by decide) ?_
      refine lv_icmp_ne (tgt := 58) hx hb dX5_readEnd_42 (by decide) (fun hc_11 => ?_) (fun hc_11 => ?_)
      · have hv := hv.1 hc_11
        refine lv_aload_n hx hb dX5_readEnd_58 rfl (lv_at hl 0 rfl) ?_
        refine lv_iconst (v := 1) hx hb dX5_readEnd_59 (by decide) ?_
        refine x_callv (wr := []) (w' := fun (u : (Int32) × (Int32)) => [(e0, .inr (5, [.ref e01, .int xl, .int u.2, .int u.1, .int xa2_6, .int xa2_6, .int xr, .int xn])), aB G e01 400 xb]) (x_runV (As := [.int 1]) (rest := []) (n := 1) (C := RX5) (ci := 5) ⟨hx, hb, hml, hown, hts⟩ (k_X5_fail l G e0 e01 _ xb xl xf xg xa2_6 xa2_6 xr xn 1) gX5_readEnd_X5_fail rfl (by decide +kernel) ⟨Nat.le_trans (Nat.le_of_ble_eq_true rfl) hRf, Nat.le_trans (Nat.le_of_ble_eq_true rfl) hRl⟩ hKK hSS hS hA hP hD [0, 1] (by decide) rfl rfl rfl 0 rfl rfl hl.1 rfl (Nat.le_of_ble_eq_true rfl) dX5_readEnd_60) hP hD hS hA [0, 1] [] [0, 1] rfl rfl (by decide) (by decide) (by decide) (fun _ => rfl) (fun  u H locs hw hP hD hS => ?_)
        obtain ⟨xg2_13, xf2_14⟩ := u
        obtain ⟨hw0, hw1⟩ := hw
        replace hw0 := hw0.symm; subst hw0
        replace hw1 := hw1.symm; subst hw1
        have hP : va_P G.1 vwCl [(e0, .inr (5, [.ref e01, .int xl, .int (if xg = 0 then xa2_6 else xf), .int (if xg = 0 then 1 else xg), .int xa2_6, .int xa2_6, .int xr, .int xn])), aB G e01 400 xb] H := hP
        have hD : va_D A [(e0, .inr (5, [.ref e01, .int xl, .int (if xg = 0 then xa2_6 else xf), .int (if xg = 0 then 1 else xg), .int xa2_6, .int xa2_6, .int xr, .int xn])), aB G e01 400 xb] := hD
        exact x_vret (xa2_6, xa2_6, (if xg = 0 then 1 else xg), (if xg = 0 then xa2_6 else xf)) hQ hx hb hr hlocks hS dX5_readEnd_63 hv hP hD
      · have hv := hv.2 hc_11
        refine lv_aload_n hx hb dX5_readEnd_45 rfl (lv_at hl 0 rfl) ?_
        refine lv_dup hx hb dX5_readEnd_46 rfl ?_
        refine va_get (D := G.1) (ci := 5) (v := .int xa2_6) (C := RX5) (T := TX5) (N := 8) hx hb hts hinX5 hown hKK.1 hP 0 rfl rfl 4 (by decide) kl22 (fun _ h9 => h9) rfl dX5_readEnd_47 ?_
        refine lv_iconst (v := 1) hx hb dX5_readEnd_50 (by decide) ?_
        refine lv_iadd hx hb dX5_readEnd_51 ?_
        refine va_put (D := G.1) (ci := 5) (v := .int (xa2_6 + 1)) (ty := .int) (C := RX5) (T := TX5) (N := 8) hx hb hts hinX5 tyX5 tyX5_ok nmX5 hown hKK.1 hP hD hS 0 rfl rfl 4 (by decide) kl22 (fun _ h9 => h9) rfl (by decide +kernel) rfl rfl (Nat.le_of_ble_eq_true rfl) dX5_readEnd_52 (fun H locs hP hD hS => ?_)
        have hP : va_P G.1 vwCl [(e0, .inr (5, [.ref e01, .int xl, .int xf, .int xg, .int (xa2_6 + 1), .int xa2_6, .int xr, .int xn])), aB G e01 400 xb] H := hP
        have hD : va_D A [(e0, .inr (5, [.ref e01, .int xl, .int xf, .int xg, .int (xa2_6 + 1), .int xa2_6, .int xr, .int xn])), aB G e01 400 xb] := hD
        refine lv_goto (tgt := 63) hx hb dX5_readEnd_55 (by decide) ?_
        exact x_vret ((xa2_6 + 1), xa2_6, xg, xf) hQ hx hb hr hlocks hS dX5_readEnd_63 hv hP hD
  · have hv := hv.2 hc_1
    exact x_vret (xa, xt, xg, xf) hQ hx hb hr hlocks hS dX5_readEnd_7 hv hP hD
theorem v_X5_readEnd (l : Launch) (G : Gt) (e0 e01 : Nat) (sz : Nat) (xb : Nat → Int32) (xl : Int32) (xf : Int32) (xg : Int32) (xa : Int32) (xt : Int32) (xr : Int32) (xn : Int32) (B : Nat → Int) (L : Nat) (st : Flt ⊕ Nat) (hp : CX B L xb xl ∧ CSs L st xg xf xa) : (xg = 0 → ∃ (gB_2 : Nat → Int) (gL_3 : Nat) (gaq_4 : Nat), ((CX gB_2 gL_3 xb xl ∧ xa = nI gaq_4 ∧ gaq_4 ≤ gL_3) ∧ (∀ (xa2_6 : Int32), (xa2_6 = nI (sk gB_2 gL_3 gaq_4)) → ((xl ≤ xa2_6 → CSs L (bnd st (smR B L)) (if xg = 0 then 1 else xg) (if xg = 0 then xa2_6 else xf) xa2_6) ∧ (¬ (xl ≤ xa2_6) → (vp_in xa2_6 400) ∧ ((¬ (xb xa2_6.toNatClampNeg) = 59 → CSs L (bnd st (smR B L)) (if xg = 0 then 1 else xg) (if xg = 0 then xa2_6 else xf) xa2_6) ∧ ((xb xa2_6.toNatClampNeg) = 59 → CSs L (bnd st (smR B L)) xg xf (xa2_6 + 1)))))))) ∧ (¬ (xg = 0) → CSs L (bnd st (smR B L)) xg xf xa) := by
  obtain ⟨hX, hS⟩ := hp
  have hL := hX.1
  have hxl := hX.2.1
  cases st with
  | inl f =>
    have h : CSf L f xg xf xa := hS
    exact ⟨fun q => absurd q h.ne, fun _ => h⟩
  | inr aq =>
    obtain ⟨ha, rfl, rfl, rfl⟩ := hS
    have hs := sk_L (B := B) ha
    refine ⟨fun _ => ⟨B, L, aq, ⟨hX, rfl, ha⟩, fun z hz => ?_⟩, fun q => absurd rfl q⟩
    subst hz
    simp only [if_true]
    have ea : (nI (sk B L aq)).toNatClampNeg = sk B L aq := nI_clamp (by omega)
    have hle : nI L ≤ nI (sk B L aq) ↔ L ≤ sk B L aq := nI_leI (by omega) (by omega)
    rw [ea, hxl, hle]
    have bad : ¬ (sk B L aq < L ∧ B (sk B L aq) = 59) → CSs L (bnd (.inr aq) (smR B L)) 1 (nI (sk B L aq)) (nI (sk B L aq)) := fun h => by
      show CSs L (smR B L aq) _ _ _
      rw [smR, if_neg h]
      exact CSf.mk (f := 1) (by decide) (by decide) hs
    refine ⟨fun q => bad (fun z => absurd z.1 (by omega)), fun q => ?_⟩
    have hb := hX.is (i := sk B L aq) (by omega) 59 (by decide) (by decide)
    refine ⟨vp_in_nI (by omega) (by omega), fun h => bad (fun z => h (hb.mpr z.2)), fun h => ?_⟩
    show CSs L (smR B L aq) _ _ _
    rw [smR, if_pos ⟨by omega, hb.mp h⟩]
    exact ⟨by omega, rfl, rfl, nI_1 _⟩
theorem k_X5_readEnd (l : Launch) (G : Gt) (e0 e01 : Nat) (sz : Nat) (xb : Nat → Int32) (xl : Int32) (xf : Int32) (xg : Int32) (xa : Int32) (xt : Int32) (xr : Int32) (xn : Int32) (B : Nat → Int) (L : Nat) (st : Flt ⊕ Nat) (hp : CX B L xb xl ∧ CSs L st xg xf xa) : MetV l yX5_readEnd wsX5_readEnd 1 21 G [.ref e0] [(e0, .inr (5, [.ref e01, .int xl, .int xf, .int xg, .int xa, .int xt, .int xr, .int xn])), aB G e01 400 xb] sz (fun (u : (Int32) × (Int32) × (Int32) × (Int32)) => CSs L (bnd st (smR B L)) u.2.2.1 u.2.2.2 u.1) (fun (u : (Int32) × (Int32) × (Int32) × (Int32)) => [(e0, .inr (5, [.ref e01, .int xl, .int u.2.2.2, .int u.2.2.1, .int u.1, .int u.2.1, .int xr, .int xn])), aB G e01 400 xb]) :=
  c_X5_readEnd l G e0 e01 sz xb xl xf xg xa xt xr xn B L st (v_X5_readEnd l G e0 e01 sz xb xl xf xg xa xt xr xn B L st hp)

set_option maxHeartbeats 4000000 in
set_option maxRecDepth 100000 in
theorem c_X5_readKind (l : Launch) (G : Gt) (e0 e01 : Nat) (sz : Nat) (xb : Nat → Int32) (xl : Int32) (xf : Int32) (xg : Int32) (xa : Int32) (xt : Int32) (xr : Int32) (xn : Int32) (B : Nat → Int) (L : Nat) (aq : Nat) (hv : ∃ (gB_1 : Nat → Int) (gL_2 : Nat) (gaq_3 : Nat), ((CX gB_1 gL_2 xb xl ∧ xa = nI gaq_3 ∧ gaq_3 ≤ gL_2) ∧ (∀ (xa2_5 : Int32) (xt2_6 : Int32), (xt2_6 = nI (sk gB_1 gL_2 gaq_3) ∧ xa2_5 = nI (wE gB_1 gL_2 (sk gB_1 gL_2 gaq_3))) → (∃ (gB_7 : Nat → Int) (gL_8 : Nat) (gwq_9 : Nat) (geq__10 : Nat), ((CX gB_7 gL_8 xb xl ∧ xt2_6 = nI gwq_9 ∧ xa2_5 = nI geq__10 ∧ gwq_9 ≤ geq__10 ∧ geq__10 ≤ gL_8) ∧ (∀ (r_11 : Int32), (r_11 = (if wIs gB_7 gwq_9 geq__10 4 = true then 1 else 0)) → ((r_11 = 0 → ∃ (gB_13 : Nat → Int) (gL_14 : Nat) (gwq_15 : Nat) (geq__16 : Nat), ((CX gB_13 gL_14 xb xl ∧ xt2_6 = nI gwq_15 ∧ xa2_5 = nI geq__16 ∧ gwq_15 ≤ geq__16 ∧ geq__16 ≤ gL_14) ∧ (∀ (r_17 : Int32), (r_17 = (if wIs gB_13 gwq_15 geq__16 5 = true then 1 else 0)) → ((r_17 = 0 → ∃ (gB_19 : Nat → Int) (gL_20 : Nat) (gwq_21 : Nat) (geq__22 : Nat), ((CX gB_19 gL_20 xb xl ∧ xt2_6 = nI gwq_21 ∧ xa2_5 = nI geq__22 ∧ gwq_21 ≤ geq__22 ∧ geq__22 ≤ gL_20) ∧ (∀ (r_23 : Int32), (r_23 = (if wIs gB_19 gwq_21 geq__22 6 = true then 1 else 0)) → ((r_23 = 0 → ∃ (gB_25 : Nat → Int) (gL_26 : Nat) (gwq_27 : Nat) (geq__28 : Nat), ((CX gB_25 gL_26 xb xl ∧ xt2_6 = nI gwq_27 ∧ xa2_5 = nI geq__28 ∧ gwq_27 ≤ geq__28 ∧ geq__28 ≤ gL_26) ∧ (∀ (r_29 : Int32), (r_29 = (if wIs gB_25 gwq_27 geq__28 7 = true then 1 else 0)) → ((r_29 = 0 → ∃ (gB_31 : Nat → Int) (gL_32 : Nat) (gwq_33 : Nat) (geq__34 : Nat), ((CX gB_31 gL_32 xb xl ∧ xt2_6 = nI gwq_33 ∧ xa2_5 = nI geq__34 ∧ gwq_33 ≤ geq__34 ∧ geq__34 ≤ gL_32) ∧ (∀ (r_35 : Int32), (r_35 = (if wIs gB_31 gwq_33 geq__34 8 = true then 1 else 0)) → ((r_35 = 0 → CSk L (kiR B L aq) (0 : Int32) (if xg = 0 then 1 else xg) (if xg = 0 then xt2_6 else xf) xa2_5) ∧ (¬ (r_35 = 0) → CSk L (kiR B L aq) (4 : Int32) xg xf xa2_5))))) ∧ (¬ (r_29 = 0) → CSk L (kiR B L aq) (3 : Int32) xg xf xa2_5))))) ∧ (¬ (r_23 = 0) → CSk L (kiR B L aq) (2 : Int32) xg xf xa2_5))))) ∧ (¬ (r_17 = 0) → CSk L (kiR B L aq) (1 : Int32) xg xf xa2_5))))) ∧ (¬ (r_11 = 0) → CSk L (kiR B L aq) (0 : Int32) xg xf xa2_5)))))))) : MetI l yX5_readKind wsX5_readKind 5 107 G [.ref e0] [(e0, .inr (5, [.ref e01, .int xl, .int xf, .int xg, .int xa, .int xt, .int xr, .int xn])), aB G e01 400 xb] sz (fun (r : Int32) (u : (Int32) × (Int32) × (Int32) × (Int32)) => CSk L (kiR B L aq) r u.2.2.1 u.2.2.2 u.1) (fun (u : (Int32) × (Int32) × (Int32) × (Int32)) => [(e0, .inr (5, [.ref e01, .int xl, .int u.2.2.2, .int u.2.2.1, .int u.1, .int u.2.1, .int xr, .int xn])), aB G e01 400 xb]) := by
  refine x_startI (cc := cX5_readKind) (maxL := 1) (ret := (some .int)) (by decide) rfl (Nat.le_of_ble_eq_true rfl) ?_
  intro p e s m args below meth c A R Q ls hRf hRl hQ C hP hD hS hA hSS hl
  obtain ⟨hx, hb, hr, hml, hown, hts, hlocks, hKK⟩ := C
  have hown : s.vm.findClass RX5 = some m.cls := hown
  have hl : lv_has ls 1 [(0, .ref e0)] := hl
  refine lv_aload_n hx hb dX5_readKind_0 rfl (lv_at hl 0 rfl) ?_
  obtain ⟨gB_1, gL_2, gaq_3, hv⟩ := hv
  obtain ⟨hp, hv⟩ := hv
  refine x_callv (wr := []) (w' := fun (u : (Int32) × (Int32)) => [(e0, .inr (5, [.ref e01, .int xl, .int xf, .int xg, .int u.1, .int u.2, .int xr, .int xn])), aB G e01 400 xb]) (x_runV (As := []) (rest := []) (n := 0) (C := RX5) (ci := 5) ⟨hx, hb, hml, hown, hts⟩ (k_X5_readWord l G e0 e01 _ xb xl xf xg xa xt xr xn gB_1 gL_2 gaq_3 hp) gX5_readKind_X5_readWord rfl (by decide +kernel) ⟨Nat.le_trans (Nat.le_of_ble_eq_true rfl) hRf, Nat.le_trans (Nat.le_of_ble_eq_true rfl) hRl⟩ hKK hSS hS hA hP hD [0, 1] (by decide) rfl rfl rfl 0 rfl rfl hl.1 rfl (Nat.le_of_ble_eq_true rfl) dX5_readKind_1) hP hD hS hA [0, 1] [] [0, 1] rfl rfl (by decide) (by decide) (by decide) (fun _ => rfl) (fun  u H locs hw hP hD hS => ?_)
  obtain ⟨xa2_5, xt2_6⟩ := u
  have hP : va_P G.1 vwCl [(e0, .inr (5, [.ref e01, .int xl, .int xf, .int xg, .int xa2_5, .int xt2_6, .int xr, .int xn])), aB G e01 400 xb] H := hP
  have hD : va_D A [(e0, .inr (5, [.ref e01, .int xl, .int xf, .int xg, .int xa2_5, .int xt2_6, .int xr, .int xn])), aB G e01 400 xb] := hD
  have hv := hv xa2_5 xt2_6 hw
  refine lv_aload_n hx hb dX5_readKind_4 rfl (lv_at hl 0 rfl) ?_
  refine va_ldcS hx hb hown (hSS.2.1 4 (by decide)) dX5_readKind_5 ?_
  obtain ⟨gB_7, gL_8, gwq_9, geq__10, hv⟩ := hv
  obtain ⟨hp, hv⟩ := hv
  refine x_calliR (x_runV (As := [.ref (kS G 4)]) (rest := []) (n := 1) (C := RX5) (ci := 5) ⟨hx, hb, hml, hown, hts⟩ (k_X5_wordIs l G e0 e01 _ xb xl xf xg xa2_5 xt2_6 xr xn 4 gB_7 gL_8 gwq_9 geq__10 (by decide) hp) gX5_readKind_X5_wordIs rfl (by decide +kernel) ⟨Nat.le_trans (Nat.le_of_ble_eq_true rfl) hRf, Nat.le_trans (Nat.le_of_ble_eq_true rfl) hRl⟩ hKK hSS hS hA hP hD [0, 1] (by decide) rfl rfl rfl 0 rfl rfl hl.1 rfl (Nat.le_of_ble_eq_true rfl) dX5_readKind_7) hP hD hS hA [0, 1] rfl (fun r_11 _ H locs hw hP hS => ?_)
  have hv := hv r_11 hw
  refine lv_if_eq (tgt := 15) hx hb dX5_readKind_10 (by decide) (fun hc_12 => ?_) (fun hc_12 => ?_)
  · have hv := hv.1 hc_12
    refine lv_aload_n hx hb dX5_readKind_15 rfl (lv_at hl 0 rfl) ?_
    refine va_ldcS hx hb hown (hSS.2.1 5 (by decide)) dX5_readKind_16 ?_
    obtain ⟨gB_13, gL_14, gwq_15, geq__16, hv⟩ := hv
    obtain ⟨hp, hv⟩ := hv
    refine x_calliR (x_runV (As := [.ref (kS G 5)]) (rest := []) (n := 1) (C := RX5) (ci := 5) ⟨hx, hb, hml, hown, hts⟩ (k_X5_wordIs l G e0 e01 _ xb xl xf xg xa2_5 xt2_6 xr xn 5 gB_13 gL_14 gwq_15 geq__16 (by decide) hp) gX5_readKind_X5_wordIs rfl (by decide +kernel) ⟨Nat.le_trans (Nat.le_of_ble_eq_true rfl) hRf, Nat.le_trans (Nat.le_of_ble_eq_true rfl) hRl⟩ hKK hSS hS hA hP hD [0, 1] (by decide) rfl rfl rfl 0 rfl rfl hl.1 rfl (Nat.le_of_ble_eq_true rfl) dX5_readKind_18) hP hD hS hA [0, 1] rfl (fun r_17 _ H locs hw hP hS => ?_)
    have hv := hv r_17 hw
    refine lv_if_eq (tgt := 26) hx hb dX5_readKind_21 (by decide) (fun hc_18 => ?_) (fun hc_18 => ?_)
    · have hv := hv.1 hc_18
      refine lv_aload_n hx hb dX5_readKind_26 rfl (lv_at hl 0 rfl) ?_
      refine va_ldcS hx hb hown (hSS.2.1 6 (by decide)) dX5_readKind_27 ?_
      obtain ⟨gB_19, gL_20, gwq_21, geq__22, hv⟩ := hv
      obtain ⟨hp, hv⟩ := hv
      refine x_calliR (x_runV (As := [.ref (kS G 6)]) (rest := []) (n := 1) (C := RX5) (ci := 5) ⟨hx, hb, hml, hown, hts⟩ (k_X5_wordIs l G e0 e01 _ xb xl xf xg xa2_5 xt2_6 xr xn 6 gB_19 gL_20 gwq_21 geq__22 (by decide) hp) gX5_readKind_X5_wordIs rfl (by decide +kernel) ⟨Nat.le_trans (Nat.le_of_ble_eq_true rfl) hRf, Nat.le_trans (Nat.le_of_ble_eq_true rfl) hRl⟩ hKK hSS hS hA hP hD [0, 1] (by decide) rfl rfl rfl 0 rfl rfl hl.1 rfl (Nat.le_of_ble_eq_true rfl) dX5_readKind_29) hP hD hS hA [0, 1] rfl (fun r_23 _ H locs hw hP hS => ?_)
      have hv := hv r_23 hw
      refine lv_if_eq (tgt := 37) hx hb dX5_readKind_32 (by decide) (fun hc_24 => ?_) (fun hc_24 => ?_)
      · have hv := hv.1 hc_24
        refine lv_aload_n hx hb dX5_readKind_37 rfl (lv_at hl 0 rfl) ?_
        refine va_ldcS hx hb hown (hSS.2.1 7 (by decide)) dX5_readKind_38 ?_
        obtain ⟨gB_25, gL_26, gwq_27, geq__28, hv⟩ := hv
        obtain ⟨hp, hv⟩ := hv
        refine x_calliR (x_runV (As := [.ref (kS G 7)]) (rest := []) (n := 1) (C := RX5) (ci := 5) ⟨hx, hb, hml, hown, hts⟩ (k_X5_wordIs l G e0 e01 _ xb xl xf xg xa2_5 xt2_6 xr xn 7 gB_25 gL_26 gwq_27 geq__28 (by decide) hp) gX5_readKind_X5_wordIs rfl (by decide +kernel) ⟨Nat.le_trans (Nat.le_of_ble_eq_true rfl) hRf, Nat.le_trans (Nat.le_of_ble_eq_true rfl) hRl⟩ hKK hSS hS hA hP hD [0, 1] (by decide) rfl rfl rfl 0 rfl rfl hl.1 rfl (Nat.le_of_ble_eq_true rfl) dX5_readKind_40) hP hD hS hA [0, 1] rfl (fun r_29 _ H locs hw hP hS => ?_)
        have hv := hv r_29 hw
        refine lv_if_eq (tgt := 48) hx hb dX5_readKind_43 (by decide) (fun hc_30 => ?_) (fun hc_30 => ?_)
        · have hv := hv.1 hc_30
          refine lv_aload_n hx hb dX5_readKind_48 rfl (lv_at hl 0 rfl) ?_
          refine va_ldcS hx hb hown (hSS.2.1 8 (by decide)) dX5_readKind_49 ?_
          obtain ⟨gB_31, gL_32, gwq_33, geq__34, hv⟩ := hv
          obtain ⟨hp, hv⟩ := hv
          refine x_calliR (x_runV (As := [.ref (kS G 8)]) (rest := []) (n := 1) (C := RX5) (ci := 5) ⟨hx, hb, hml, hown, hts⟩ (k_X5_wordIs l G e0 e01 _ xb xl xf xg xa2_5 xt2_6 xr xn 8 gB_31 gL_32 gwq_33 geq__34 (by decide) hp) gX5_readKind_X5_wordIs rfl (by decide +kernel) ⟨Nat.le_trans (Nat.le_of_ble_eq_true rfl) hRf, Nat.le_trans (Nat.le_of_ble_eq_true rfl) hRl⟩ hKK hSS hS hA hP hD [0, 1] (by decide) rfl rfl rfl 0 rfl rfl hl.1 rfl (Nat.le_of_ble_eq_true rfl) dX5_readKind_51) hP hD hS hA [0, 1] rfl (fun r_35 _ H locs hw hP hS => ?_)
          have hv := hv r_35 hw
          refine lv_if_eq (tgt := 59) hx hb dX5_readKind_54 (by decide) (fun hc_36 => ?_) (fun hc_36 => ?_)
          · have hv := hv.1 hc_36
            refine lv_aload_n hx hb dX5_readKind_59 rfl (lv_at hl 0 rfl) ?_
            refine lv_iconst (v := 1) hx hb dX5_readKind_60 (by decide) ?_
            refine x_callv (wr := []) (w' := fun (u : (Int32) × (Int32)) => [(e0, .inr (5, [.ref e01, .int xl, .int u.2, .int u.1, .int xa2_5, .int xt2_6, .int xr, .int xn])), aB G e01 400 xb]) (x_runV (As := [.int 1]) (rest := []) (n := 1) (C := RX5) (ci := 5) ⟨hx, hb, hml, hown, hts⟩ (k_X5_fail l G e0 e01 _ xb xl xf xg xa2_5 xt2_6 xr xn 1) gX5_readKind_X5_fail rfl (by decide +kernel) ⟨Nat.le_trans (Nat.le_of_ble_eq_true rfl) hRf, Nat.le_trans (Nat.le_of_ble_eq_true rfl) hRl⟩ hKK hSS hS hA hP hD [0, 1] (by decide) rfl rfl rfl 0 rfl rfl hl.1 rfl (Nat.le_of_ble_eq_true rfl) dX5_readKind_61) hP hD hS hA [0, 1] [] [0, 1] rfl rfl (by decide) (by decide) (by decide) (fun _ => rfl) (fun  u H locs hw hP hD hS => ?_)
            obtain ⟨xg2_38, xf2_39⟩ := u
            obtain ⟨hw0, hw1⟩ := hw
            replace hw0 := hw0.symm; subst hw0
            replace hw1 := hw1.symm; subst hw1
            have hP : va_P G.1 vwCl [(e0, .inr (5, [.ref e01, .int xl, .int (if xg = 0 then xt2_6 else xf), .int (if xg = 0 then 1 else xg), .int xa2_5, .int xt2_6, .int xr, .int xn])), aB G e01 400 xb] H := hP
            have hD : va_D A [(e0, .inr (5, [.ref e01, .int xl, .int (if xg = 0 then xt2_6 else xf), .int (if xg = 0 then 1 else xg), .int xa2_5, .int xt2_6, .int xr, .int xn])), aB G e01 400 xb] := hD
            refine lv_iconst (v := 0) hx hb dX5_readKind_64 (by decide) ?_
            exact x_iret (v := 0) (xa2_5, xt2_6, (if xg = 0 then 1 else xg), (if xg = 0 then xt2_6 else xf)) hQ hx hb hr hlocks hS dX5_readKind_65 hv hP hD
          · have hv := hv.2 hc_36
            refine lv_iconst (v := 4) hx hb dX5_readKind_57 (by decide) ?_
            exact x_iret (v := 4) (xa2_5, xt2_6, xg, xf) hQ hx hb hr hlocks hS dX5_readKind_58 hv hP hD
        · have hv := hv.2 hc_30
          refine lv_iconst (v := 3) hx hb dX5_readKind_46 (by decide) ?_
          exact x_iret (v := 3) (xa2_5, xt2_6, xg, xf) hQ hx hb hr hlocks hS dX5_readKind_47 hv hP hD
      · have hv := hv.2 hc_24
        refine lv_iconst (v := 2) hx hb dX5_readKind_35 (by decide) ?_
        exact x_iret (v := 2) (xa2_5, xt2_6, xg, xf) hQ hx hb hr hlocks hS dX5_readKind_36 hv hP hD
    · have hv := hv.2 hc_18
      refine lv_iconst (v := 1) hx hb dX5_readKind_24 (by decide) ?_
      exact x_iret (v := 1) (xa2_5, xt2_6, xg, xf) hQ hx hb hr hlocks hS dX5_readKind_25 hv hP hD
  · have hv := hv.2 hc_12
    refine lv_iconst (v := 0) hx hb dX5_readKind_13 (by decide) ?_
    exact x_iret (v := 0) (xa2_5, xt2_6, xg, xf) hQ hx hb hr hlocks hS dX5_readKind_14 hv hP hD
theorem v_X5_readKind (l : Launch) (G : Gt) (e0 e01 : Nat) (sz : Nat) (xb : Nat → Int32) (xl : Int32) (xf : Int32) (xg : Int32) (xa : Int32) (xt : Int32) (xr : Int32) (xn : Int32) (B : Nat → Int) (L : Nat) (aq : Nat) (hp : CX B L xb xl ∧ CSo L aq xg xf xa) : ∃ (gB_1 : Nat → Int) (gL_2 : Nat) (gaq_3 : Nat), ((CX gB_1 gL_2 xb xl ∧ xa = nI gaq_3 ∧ gaq_3 ≤ gL_2) ∧ (∀ (xa2_5 : Int32) (xt2_6 : Int32), (xt2_6 = nI (sk gB_1 gL_2 gaq_3) ∧ xa2_5 = nI (wE gB_1 gL_2 (sk gB_1 gL_2 gaq_3))) → (∃ (gB_7 : Nat → Int) (gL_8 : Nat) (gwq_9 : Nat) (geq__10 : Nat), ((CX gB_7 gL_8 xb xl ∧ xt2_6 = nI gwq_9 ∧ xa2_5 = nI geq__10 ∧ gwq_9 ≤ geq__10 ∧ geq__10 ≤ gL_8) ∧ (∀ (r_11 : Int32), (r_11 = (if wIs gB_7 gwq_9 geq__10 4 = true then 1 else 0)) → ((r_11 = 0 → ∃ (gB_13 : Nat → Int) (gL_14 : Nat) (gwq_15 : Nat) (geq__16 : Nat), ((CX gB_13 gL_14 xb xl ∧ xt2_6 = nI gwq_15 ∧ xa2_5 = nI geq__16 ∧ gwq_15 ≤ geq__16 ∧ geq__16 ≤ gL_14) ∧ (∀ (r_17 : Int32), (r_17 = (if wIs gB_13 gwq_15 geq__16 5 = true then 1 else 0)) → ((r_17 = 0 → ∃ (gB_19 : Nat → Int) (gL_20 : Nat) (gwq_21 : Nat) (geq__22 : Nat), ((CX gB_19 gL_20 xb xl ∧ xt2_6 = nI gwq_21 ∧ xa2_5 = nI geq__22 ∧ gwq_21 ≤ geq__22 ∧ geq__22 ≤ gL_20) ∧ (∀ (r_23 : Int32), (r_23 = (if wIs gB_19 gwq_21 geq__22 6 = true then 1 else 0)) → ((r_23 = 0 → ∃ (gB_25 : Nat → Int) (gL_26 : Nat) (gwq_27 : Nat) (geq__28 : Nat), ((CX gB_25 gL_26 xb xl ∧ xt2_6 = nI gwq_27 ∧ xa2_5 = nI geq__28 ∧ gwq_27 ≤ geq__28 ∧ geq__28 ≤ gL_26) ∧ (∀ (r_29 : Int32), (r_29 = (if wIs gB_25 gwq_27 geq__28 7 = true then 1 else 0)) → ((r_29 = 0 → ∃ (gB_31 : Nat → Int) (gL_32 : Nat) (gwq_33 : Nat) (geq__34 : Nat), ((CX gB_31 gL_32 xb xl ∧ xt2_6 = nI gwq_33 ∧ xa2_5 = nI geq__34 ∧ gwq_33 ≤ geq__34 ∧ geq__34 ≤ gL_32) ∧ (∀ (r_35 : Int32), (r_35 = (if wIs gB_31 gwq_33 geq__34 8 = true then 1 else 0)) → ((r_35 = 0 → CSk L (kiR B L aq) (0 : Int32) (if xg = 0 then 1 else xg) (if xg = 0 then xt2_6 else xf) xa2_5) ∧ (¬ (r_35 = 0) → CSk L (kiR B L aq) (4 : Int32) xg xf xa2_5))))) ∧ (¬ (r_29 = 0) → CSk L (kiR B L aq) (3 : Int32) xg xf xa2_5))))) ∧ (¬ (r_23 = 0) → CSk L (kiR B L aq) (2 : Int32) xg xf xa2_5))))) ∧ (¬ (r_17 = 0) → CSk L (kiR B L aq) (1 : Int32) xg xf xa2_5))))) ∧ (¬ (r_11 = 0) → CSk L (kiR B L aq) (0 : Int32) xg xf xa2_5))))))) := by
  obtain ⟨hX, ha, rfl, rfl, rfl⟩ := hp
  have hL := hX.1
  have hxl := hX.2.1
  have hs := sk_L (B := B) ha
  have hw := wE_L (B := B) hs
  refine ⟨B, L, aq, ⟨hX, rfl, ha⟩, fun e w h => ?_⟩
  obtain ⟨rfl, rfl⟩ := h
  have ok : ∀ v : Int32, 0 ≤ v.toInt → kdW B (sk B L aq) (wE B L (sk B L aq)) = v.toInt → CSk L (kiR B L aq) v 0 (-1) (nI (wE B L (sk B L aq))) := fun v h0 hk => by
    rw [kiR, hk, if_neg (by omega)]
    exact ⟨⟨hw, rfl, rfl, rfl⟩, rfl⟩
  refine ⟨B, L, sk B L aq, wE B L (sk B L aq), ⟨hX, rfl, rfl, wE_le, hw⟩, fun r hr => ?_⟩
  subst hr
  rw [tv_eq, Classical.not_not]
  refine ⟨fun h4 => ?_, fun h4 => ok 0 (by decide) (by unfold kdW; rw [if_pos h4]; rfl)⟩
  refine ⟨B, L, sk B L aq, wE B L (sk B L aq), ⟨hX, rfl, rfl, wE_le, hw⟩, fun r hr => ?_⟩
  subst hr
  rw [tv_eq, Classical.not_not]
  refine ⟨fun h5 => ?_, fun h5 => ok 1 (by decide) (by unfold kdW; rw [if_neg h4, if_pos h5]; rfl)⟩
  refine ⟨B, L, sk B L aq, wE B L (sk B L aq), ⟨hX, rfl, rfl, wE_le, hw⟩, fun r hr => ?_⟩
  subst hr
  rw [tv_eq, Classical.not_not]
  refine ⟨fun h6 => ?_, fun h6 => ok 2 (by decide) (by unfold kdW; rw [if_neg h4, if_neg h5, if_pos h6]; rfl)⟩
  refine ⟨B, L, sk B L aq, wE B L (sk B L aq), ⟨hX, rfl, rfl, wE_le, hw⟩, fun r hr => ?_⟩
  subst hr
  rw [tv_eq, Classical.not_not]
  refine ⟨fun h7 => ?_, fun h7 => ok 3 (by decide) (by unfold kdW; rw [if_neg h4, if_neg h5, if_neg h6, if_pos h7]; rfl)⟩
  refine ⟨B, L, sk B L aq, wE B L (sk B L aq), ⟨hX, rfl, rfl, wE_le, hw⟩, fun r hr => ?_⟩
  subst hr
  rw [tv_eq, Classical.not_not]
  refine ⟨fun h8 => ?_, fun h8 => ok 4 (by decide) (by unfold kdW; rw [if_neg h4, if_neg h5, if_neg h6, if_neg h7, if_pos h8]; rfl)⟩
  simp only [if_true]
  rw [kiR, if_pos (by unfold kdW; rw [if_neg h4, if_neg h5, if_neg h6, if_neg h7, if_neg h8]; decide)]
  exact CSf.mk (f := 1) (by decide) (by decide) hw
theorem k_X5_readKind (l : Launch) (G : Gt) (e0 e01 : Nat) (sz : Nat) (xb : Nat → Int32) (xl : Int32) (xf : Int32) (xg : Int32) (xa : Int32) (xt : Int32) (xr : Int32) (xn : Int32) (B : Nat → Int) (L : Nat) (aq : Nat) (hp : CX B L xb xl ∧ CSo L aq xg xf xa) : MetI l yX5_readKind wsX5_readKind 5 107 G [.ref e0] [(e0, .inr (5, [.ref e01, .int xl, .int xf, .int xg, .int xa, .int xt, .int xr, .int xn])), aB G e01 400 xb] sz (fun (r : Int32) (u : (Int32) × (Int32) × (Int32) × (Int32)) => CSk L (kiR B L aq) r u.2.2.1 u.2.2.2 u.1) (fun (u : (Int32) × (Int32) × (Int32) × (Int32)) => [(e0, .inr (5, [.ref e01, .int xl, .int u.2.2.2, .int u.2.2.1, .int u.1, .int u.2.1, .int xr, .int xn])), aB G e01 400 xb]) :=
  c_X5_readKind l G e0 e01 sz xb xl xf xg xa xt xr xn B L aq (v_X5_readKind l G e0 e01 sz xb xl xf xg xa xt xr xn B L aq hp)

set_option maxHeartbeats 4000000 in
set_option maxRecDepth 100000 in
theorem c_X5_readStone (l : Launch) (G : Gt) (e0 e01 t t1 t2 t3 t4 t5 t6 : Nat) (sz : Nat) (xb : Nat → Int32) (xl : Int32) (xf : Int32) (xg : Int32) (xa : Int32) (xt : Int32) (xr : Int32) (xn : Int32) (ns : Int32) (np : Int32) (fu : Int32) (fd : Int32) (fi : Int32) (sz_ : Nat → Int32) (pt : Nat → Int32) (fh : Nat → Int32) (kd : Nat → Int32) (nd : Nat → Int32) (fw : Nat → Int32) (B : Nat → Int) (L : Nat) (aq : Nat) (wq : Nat) (tq : PTn) (hv : (ns < 9 → ∃ (gB_2 : Nat → Int) (gL_3 : Nat) (gst_4 : Flt ⊕ Nat), ((CX gB_2 gL_3 xb xl ∧ CSs gL_3 gst_4 xg xf xa) ∧ (∀ (r_5 : Int32) (xa2_6 : Int32) (xt2_7 : Int32) (xg2_8 : Int32) (xf2_9 : Int32), (CSn gL_3 (bnd gst_4 (nuR gB_2 gL_3 (1 : Int32).toInt (9999 : Int32).toInt)) r_5 xg2_8 xf2_9 xa2_6 xt2_7) → (∃ (gB_10 : Nat → Int) (gL_11 : Nat) (gst_12 : Flt ⊕ Nat), ((CX gB_10 gL_11 xb xl ∧ CSs gL_11 gst_12 xg2_8 xf2_9 xa2_6) ∧ (∀ (r_13 : Int32) (xa2_14 : Int32) (xt2_15 : Int32) (xg2_16 : Int32) (xf2_17 : Int32), (CSn gL_11 (bnd gst_12 (nuR gB_10 gL_11 (2 : Int32).toInt (999 : Int32).toInt)) r_13 xg2_16 xf2_17 xa2_14 xt2_15) → (∃ (gB_18 : Nat → Int) (gL_19 : Nat) (gst_20 : Flt ⊕ Nat), ((CX gB_18 gL_19 xb xl ∧ CSs gL_19 gst_20 xg2_16 xf2_17 xa2_14) ∧ (∀ (r_21 : Int32) (xa2_22 : Int32) (xt2_23 : Int32) (xg2_24 : Int32) (xf2_25 : Int32), (CSn gL_19 (bnd gst_20 (nuR gB_18 gL_19 (0 : Int32).toInt (9999 : Int32).toInt)) r_21 xg2_24 xf2_25 xa2_22 xt2_23) → ((r_21 ≤ r_5 → ∃ (gB_27 : Nat → Int) (gL_28 : Nat) (gst_29 : Flt ⊕ Nat), ((CX gB_27 gL_28 xb xl ∧ CSs gL_28 gst_29 xg2_24 xf2_25 xa2_22) ∧ (∀ (xa2_31 : Int32) (xt2_32 : Int32) (xg2_33 : Int32) (xf2_34 : Int32), (CSs gL_28 (bnd gst_29 (smR gB_27 gL_28)) xg2_33 xf2_34 xa2_31) → ((¬ xg2_33 = 0 → CP L (smc B L (stC B L wq aq tq)) xg2_33 xf2_34 xa2_31 xr xn ns np fu fd fi sz_ pt fh kd nd fw) ∧ (xg2_33 = 0 → (vp_in ns 9 ∧ ns < 9) ∧ (CP L (smc B L (stC B L wq aq tq)) xg2_33 xf2_34 xa2_31 xr xn (ns + 1) np fu fd fi (upd sz_ ns.toNatClampNeg r_5) (upd pt ns.toNatClampNeg r_13) (upd fh ns.toNatClampNeg r_21) kd nd fw)))))) ∧ (¬ (r_21 ≤ r_5) → ∃ (gB_44 : Nat → Int) (gL_45 : Nat) (gst_46 : Flt ⊕ Nat), ((CX gB_44 gL_45 xb xl ∧ CSs gL_45 gst_46 ((if xg2_24 = 0 then 4 else xg2_24) : Int32) ((if xg2_24 = 0 then xt2_23 else xf2_25) : Int32) xa2_22) ∧ (∀ (xa2_48 : Int32) (xt2_49 : Int32) (xg2_50 : Int32) (xf2_51 : Int32), (CSs gL_45 (bnd gst_46 (smR gB_44 gL_45)) xg2_50 xf2_51 xa2_48) → ((¬ xg2_50 = 0 → CP L (smc B L (stC B L wq aq tq)) xg2_50 xf2_51 xa2_48 xr xn ns np fu fd fi sz_ pt fh kd nd fw) ∧ (xg2_50 = 0 → (vp_in ns 9 ∧ ns < 9) ∧ (CP L (smc B L (stC B L wq aq tq)) xg2_50 xf2_51 xa2_48 xr xn (ns + 1) np fu fd fi (upd sz_ ns.toNatClampNeg r_5) (upd pt ns.toNatClampNeg r_13) (upd fh ns.toNatClampNeg r_21) kd nd fw)))))))))))))))) ∧ (¬ (ns < 9) → CP L (smc B L (stC B L wq aq tq)) (if xg = 0 then 3 else xg) (if xg = 0 then xt else xf) xa xr xn ns np fu fd fi sz_ pt fh kd nd fw)) : MetV l yX5_readStone wsX5_readStone 2 45 G [.ref e0, .ref t] [(e0, .inr (5, [.ref e01, .int xl, .int xf, .int xg, .int xa, .int xt, .int xr, .int xn])), aB G e01 400 xb, (t, .inr (6, [.int ns, .int np, .int fu, .int fd, .int fi, .ref t1, .ref t2, .ref t3, .ref t4, .ref t5, .ref t6])), aI G t1 9 sz_, aI G t2 9 pt, aI G t3 9 fh, aI G t4 8 kd, aI G t5 8 nd, aI G t6 8 fw] sz (fun (u : (Int32) × (Int32) × (Int32) × (Int32) × (Int32) × (Nat → Int32) × (Nat → Int32) × (Nat → Int32)) => CP L (smc B L (stC B L wq aq tq)) u.2.2.1 u.2.2.2.1 u.1 xr xn u.2.2.2.2.1 np fu fd fi u.2.2.2.2.2.1 u.2.2.2.2.2.2.1 u.2.2.2.2.2.2.2 kd nd fw) (fun (u : (Int32) × (Int32) × (Int32) × (Int32) × (Int32) × (Nat → Int32) × (Nat → Int32) × (Nat → Int32)) => [(e0, .inr (5, [.ref e01, .int xl, .int u.2.2.2.1, .int u.2.2.1, .int u.1, .int u.2.1, .int xr, .int xn])), aB G e01 400 xb, (t, .inr (6, [.int u.2.2.2.2.1, .int np, .int fu, .int fd, .int fi, .ref t1, .ref t2, .ref t3, .ref t4, .ref t5, .ref t6])), aI G t1 9 u.2.2.2.2.2.1, aI G t2 9 u.2.2.2.2.2.2.1, aI G t3 9 u.2.2.2.2.2.2.2, aI G t4 8 kd, aI G t5 8 nd, aI G t6 8 fw]) := by
  refine x_startV (cc := cX5_readStone) (maxL := 5) (ret := none) (by decide) rfl (Nat.le_of_ble_eq_true rfl) ?_
  intro p e s m args below meth c A R Q ls hRf hRl hQ C hP hD hS hA hSS hl
  obtain ⟨hx, hb, hr, hml, hown, hts, hlocks, hKK⟩ := C
  have hown : s.vm.findClass RX5 = some m.cls := hown
  have hl : lv_has ls 5 [(0, .ref e0), (1, .ref t)] := hl
  have hinX5 : ∀ w ∈ u_ws RX5 TX5 8, w ∈ wsX5_readStone := by decide +kernel
  have hinX6 : ∀ w ∈ u_ws RX6 TX6 11, w ∈ wsX5_readStone := by decide +kernel
  have kl25 := hts (.fieldLink RX5 25 "WarmStones$Text" "fault" "I") (by decide +kernel)
  have kl82 := hts (.fieldLink RX5 82 "WarmStones$Town" "stones" "I") (by decide +kernel)
  refine lv_aload_n hx hb dX5_readStone_0 rfl (lv_at hl 1 rfl) ?_
  refine va_get (D := G.1) (ci := 6) (v := .int ns) (C := RX6) (T := TX6) (N := 11) hx hb hts hinX6 hown hKK.1 hP 2 rfl rfl 0 (by decide) kl82 (fun _ h9 => h9) rfl dX5_readStone_1 ?_
  refine lv_bipush (v := 9) hx hb dX5_readStone_4 (by decide) ?_
  refine lv_icmp_lt (tgt := 15) hx hb dX5_readStone_6 (by decide) (fun hc_1 => ?_) (fun hc_1 => ?_)
  · have hv := hv.1 hc_1
    refine lv_aload_n hx hb dX5_readStone_15 rfl (lv_at hl 0 rfl) ?_
    refine lv_iconst (v := 1) hx hb dX5_readStone_16 (by decide) ?_
    refine lv_sipush (v := 9999) hx hb dX5_readStone_17 (by decide) ?_
    obtain ⟨gB_2, gL_3, gst_4, hv⟩ := hv
    obtain ⟨hp, hv⟩ := hv
    refine x_calli (wr := [(t, .inr (6, [.int ns, .int np, .int fu, .int fd, .int fi, .ref t1, .ref t2, .ref t3, .ref t4, .ref t5, .ref t6])), aI G t1 9 sz_, aI G t2 9 pt, aI G t3 9 fh, aI G t4 8 kd, aI G t5 8 nd, aI G t6 8 fw]) (w' := fun (u : (Int32) × (Int32) × (Int32) × (Int32)) => [(e0, .inr (5, [.ref e01, .int xl, .int u.2.2.2, .int u.2.2.1, .int u.1, .int u.2.1, .int xr, .int xn])), aB G e01 400 xb, (t, .inr (6, [.int ns, .int np, .int fu, .int fd, .int fi, .ref t1, .ref t2, .ref t3, .ref t4, .ref t5, .ref t6])), aI G t1 9 sz_, aI G t2 9 pt, aI G t3 9 fh, aI G t4 8 kd, aI G t5 8 nd, aI G t6 8 fw]) (x_runV (As := [.int 1, .int 9999]) (rest := []) (n := 2) (C := RX5) (ci := 5) ⟨hx, hb, hml, hown, hts⟩ (k_X5_readNumber l G e0 e01 _ xb xl xf xg xa xt xr xn 1 9999 gB_2 gL_3 gst_4 hp) gX5_readStone_X5_readNumber rfl (by decide +kernel) ⟨Nat.le_trans (Nat.le_of_ble_eq_true rfl) hRf, Nat.le_trans (Nat.le_of_ble_eq_true rfl) hRl⟩ hKK hSS hS hA hP hD [0, 1] (by decide) rfl rfl rfl 0 rfl rfl hl.1 rfl (Nat.le_of_ble_eq_true rfl) dX5_readStone_20) hP hD hS hA [0, 1] [2, 3, 4, 5, 6, 7, 8] [7, 8, 0, 1, 2, 3, 4, 5, 6] rfl rfl (by decide) (by decide) (by decide) (fun _ => rfl) (fun r_5 u H locs hw hP hD hS => ?_)
    obtain ⟨xa2_6, xt2_7, xg2_8, xf2_9⟩ := u
    have hP : va_P G.1 vwCl [(e0, .inr (5, [.ref e01, .int xl, .int xf2_9, .int xg2_8, .int xa2_6, .int xt2_7, .int xr, .int xn])), aB G e01 400 xb, (t, .inr (6, [.int ns, .int np, .int fu, .int fd, .int fi, .ref t1, .ref t2, .ref t3, .ref t4, .ref t5, .ref t6])), aI G t1 9 sz_, aI G t2 9 pt, aI G t3 9 fh, aI G t4 8 kd, aI G t5 8 nd, aI G t6 8 fw] H := hP
    have hD : va_D A [(e0, .inr (5, [.ref e01, .int xl, .int xf2_9, .int xg2_8, .int xa2_6, .int xt2_7, .int xr, .int xn])), aB G e01 400 xb, (t, .inr (6, [.int ns, .int np, .int fu, .int fd, .int fi, .ref t1, .ref t2, .ref t3, .ref t4, .ref t5, .ref t6])), aI G t1 9 sz_, aI G t2 9 pt, aI G t3 9 fh, aI G t4 8 kd, aI G t5 8 nd, aI G t6 8 fw] := hD
    have hv := hv r_5 xa2_6 xt2_7 xg2_8 xf2_9 hw
    refine lv_istore_n (lv' := [(2, .int r_5), (0, .ref e0), (1, .ref t)]) hx hb dX5_readStone_23 rfl hl (by decide) rfl (fun ls hl => ?_)
    refine lv_aload_n hx hb dX5_readStone_24 rfl (lv_at hl 1 rfl) ?_
    refine lv_iconst (v := 2) hx hb dX5_readStone_25 (by decide) ?_
    refine lv_sipush (v := 999) hx hb dX5_readStone_26 (by decide) ?_
    obtain ⟨gB_10, gL_11, gst_12, hv⟩ := hv
    obtain ⟨hp, hv⟩ := hv
    refine x_calli (wr := [(t, .inr (6, [.int ns, .int np, .int fu, .int fd, .int fi, .ref t1, .ref t2, .ref t3, .ref t4, .ref t5, .ref t6])), aI G t1 9 sz_, aI G t2 9 pt, aI G t3 9 fh, aI G t4 8 kd, aI G t5 8 nd, aI G t6 8 fw]) (w' := fun (u : (Int32) × (Int32) × (Int32) × (Int32)) => [(e0, .inr (5, [.ref e01, .int xl, .int u.2.2.2, .int u.2.2.1, .int u.1, .int u.2.1, .int xr, .int xn])), aB G e01 400 xb, (t, .inr (6, [.int ns, .int np, .int fu, .int fd, .int fi, .ref t1, .ref t2, .ref t3, .ref t4, .ref t5, .ref t6])), aI G t1 9 sz_, aI G t2 9 pt, aI G t3 9 fh, aI G t4 8 kd, aI G t5 8 nd, aI G t6 8 fw]) (x_runV (As := [.int 2, .int 999]) (rest := []) (n := 2) (C := RX5) (ci := 5) ⟨hx, hb, hml, hown, hts⟩ (k_X5_readNumber l G e0 e01 _ xb xl xf2_9 xg2_8 xa2_6 xt2_7 xr xn 2 999 gB_10 gL_11 gst_12 hp) gX5_readStone_X5_readNumber rfl (by decide +kernel) ⟨Nat.le_trans (Nat.le_of_ble_eq_true rfl) hRf, Nat.le_trans (Nat.le_of_ble_eq_true rfl) hRl⟩ hKK hSS hS hA hP hD [0, 1] (by decide) rfl rfl rfl 0 rfl rfl hl.1 rfl (Nat.le_of_ble_eq_true rfl) dX5_readStone_29) hP hD hS hA [0, 1] [2, 3, 4, 5, 6, 7, 8] [7, 8, 0, 1, 2, 3, 4, 5, 6] rfl rfl (by decide) (by decide) (by decide) (fun _ => rfl) (fun r_13 u H locs hw hP hD hS => ?_)
    obtain ⟨xa2_14, xt2_15, xg2_16, xf2_17⟩ := u
    have hP : va_P G.1 vwCl [(e0, .inr (5, [.ref e01, .int xl, .int xf2_17, .int xg2_16, .int xa2_14, .int xt2_15, .int xr, .int xn])), aB G e01 400 xb, (t, .inr (6, [.int ns, .int np, .int fu, .int fd, .int fi, .ref t1, .ref t2, .ref t3, .ref t4, .ref t5, .ref t6])), aI G t1 9 sz_, aI G t2 9 pt, aI G t3 9 fh, aI G t4 8 kd, aI G t5 8 nd, aI G t6 8 fw] H := hP
    have hD : va_D A [(e0, .inr (5, [.ref e01, .int xl, .int xf2_17, .int xg2_16, .int xa2_14, .int xt2_15, .int xr, .int xn])), aB G e01 400 xb, (t, .inr (6, [.int ns, .int np, .int fu, .int fd, .int fi, .ref t1, .ref t2, .ref t3, .ref t4, .ref t5, .ref t6])), aI G t1 9 sz_, aI G t2 9 pt, aI G t3 9 fh, aI G t4 8 kd, aI G t5 8 nd, aI G t6 8 fw] := hD
    have hv := hv r_13 xa2_14 xt2_15 xg2_16 xf2_17 hw
    refine lv_istore_n (lv' := [(3, .int r_13), (2, .int r_5), (0, .ref e0), (1, .ref t)]) hx hb dX5_readStone_32 rfl hl (by decide) rfl (fun ls hl => ?_)
    refine lv_aload_n hx hb dX5_readStone_33 rfl (lv_at hl 2 rfl) ?_
    refine lv_iconst (v := 0) hx hb dX5_readStone_34 (by decide) ?_
    refine lv_sipush (v := 9999) hx hb dX5_readStone_35 (by decide) ?_
    obtain ⟨gB_18, gL_19, gst_20, hv⟩ := hv
    obtain ⟨hp, hv⟩ := hv
    refine x_calli (wr := [(t, .inr (6, [.int ns, .int np, .int fu, .int fd, .int fi, .ref t1, .ref t2, .ref t3, .ref t4, .ref t5, .ref t6])), aI G t1 9 sz_, aI G t2 9 pt, aI G t3 9 fh, aI G t4 8 kd, aI G t5 8 nd, aI G t6 8 fw]) (w' := fun (u : (Int32) × (Int32) × (Int32) × (Int32)) => [(e0, .inr (5, [.ref e01, .int xl, .int u.2.2.2, .int u.2.2.1, .int u.1, .int u.2.1, .int xr, .int xn])), aB G e01 400 xb, (t, .inr (6, [.int ns, .int np, .int fu, .int fd, .int fi, .ref t1, .ref t2, .ref t3, .ref t4, .ref t5, .ref t6])), aI G t1 9 sz_, aI G t2 9 pt, aI G t3 9 fh, aI G t4 8 kd, aI G t5 8 nd, aI G t6 8 fw]) (x_runV (As := [.int 0, .int 9999]) (rest := []) (n := 2) (C := RX5) (ci := 5) ⟨hx, hb, hml, hown, hts⟩ (k_X5_readNumber l G e0 e01 _ xb xl xf2_17 xg2_16 xa2_14 xt2_15 xr xn 0 9999 gB_18 gL_19 gst_20 hp) gX5_readStone_X5_readNumber rfl (by decide +kernel) ⟨Nat.le_trans (Nat.le_of_ble_eq_true rfl) hRf, Nat.le_trans (Nat.le_of_ble_eq_true rfl) hRl⟩ hKK hSS hS hA hP hD [0, 1] (by decide) rfl rfl rfl 0 rfl rfl hl.1 rfl (Nat.le_of_ble_eq_true rfl) dX5_readStone_38) hP hD hS hA [0, 1] [2, 3, 4, 5, 6, 7, 8] [7, 8, 0, 1, 2, 3, 4, 5, 6] rfl rfl (by decide) (by decide) (by decide) (fun _ => rfl) (fun r_21 u H locs hw hP hD hS => ?_)
    obtain ⟨xa2_22, xt2_23, xg2_24, xf2_25⟩ := u
    have hP : va_P G.1 vwCl [(e0, .inr (5, [.ref e01, .int xl, .int xf2_25, .int xg2_24, .int xa2_22, .int xt2_23, .int xr, .int xn])), aB G e01 400 xb, (t, .inr (6, [.int ns, .int np, .int fu, .int fd, .int fi, .ref t1, .ref t2, .ref t3, .ref t4, .ref t5, .ref t6])), aI G t1 9 sz_, aI G t2 9 pt, aI G t3 9 fh, aI G t4 8 kd, aI G t5 8 nd, aI G t6 8 fw] H := hP
    have hD : va_D A [(e0, .inr (5, [.ref e01, .int xl, .int xf2_25, .int xg2_24, .int xa2_22, .int xt2_23, .int xr, .int xn])), aB G e01 400 xb, (t, .inr (6, [.int ns, .int np, .int fu, .int fd, .int fi, .ref t1, .ref t2, .ref t3, .ref t4, .ref t5, .ref t6])), aI G t1 9 sz_, aI G t2 9 pt, aI G t3 9 fh, aI G t4 8 kd, aI G t5 8 nd, aI G t6 8 fw] := hD
    have hv := hv r_21 xa2_22 xt2_23 xg2_24 xf2_25 hw
    refine lv_istore (lv' := [(4, .int r_21), (3, .int r_13), (2, .int r_5), (0, .ref e0), (1, .ref t)]) hx hb dX5_readStone_41 hl (by decide) rfl (fun ls hl => ?_)
    refine lv_iload hx hb dX5_readStone_43 (lv_at hl 0 rfl) ?_
    refine lv_iload_n hx hb dX5_readStone_45 rfl (lv_at hl 2 rfl) ?_
    refine lv_icmp_le (tgt := 54) hx hb dX5_readStone_46 (by decide) (fun hc_26 => ?_) (fun hc_26 => ?_)
    · have hv := hv.1 hc_26
      refine lv_aload_n hx hb dX5_readStone_54 rfl (lv_at hl 3 rfl) ?_
      obtain ⟨gB_27, gL_28, gst_29, hv⟩ := hv
      obtain ⟨hp, hv⟩ := hv
      refine x_callv (wr := [(t, .inr (6, [.int ns, .int np, .int fu, .int fd, .int fi, .ref t1, .ref t2, .ref t3, .ref t4, .ref t5, .ref t6])), aI G t1 9 sz_, aI G t2 9 pt, aI G t3 9 fh, aI G t4 8 kd, aI G t5 8 nd, aI G t6 8 fw]) (w' := fun (u : (Int32) × (Int32) × (Int32) × (Int32)) => [(e0, .inr (5, [.ref e01, .int xl, .int u.2.2.2, .int u.2.2.1, .int u.1, .int u.2.1, .int xr, .int xn])), aB G e01 400 xb, (t, .inr (6, [.int ns, .int np, .int fu, .int fd, .int fi, .ref t1, .ref t2, .ref t3, .ref t4, .ref t5, .ref t6])), aI G t1 9 sz_, aI G t2 9 pt, aI G t3 9 fh, aI G t4 8 kd, aI G t5 8 nd, aI G t6 8 fw]) (x_runV (As := []) (rest := []) (n := 0) (C := RX5) (ci := 5) ⟨hx, hb, hml, hown, hts⟩ (k_X5_readEnd l G e0 e01 _ xb xl xf2_25 xg2_24 xa2_22 xt2_23 xr xn gB_27 gL_28 gst_29 hp) gX5_readStone_X5_readEnd rfl (by decide +kernel) ⟨Nat.le_trans (Nat.le_of_ble_eq_true rfl) hRf, Nat.le_trans (Nat.le_of_ble_eq_true rfl) hRl⟩ hKK hSS hS hA hP hD [0, 1] (by decide) rfl rfl rfl 0 rfl rfl hl.1 rfl (Nat.le_of_ble_eq_true rfl) dX5_readStone_55) hP hD hS hA [0, 1] [2, 3, 4, 5, 6, 7, 8] [7, 8, 0, 1, 2, 3, 4, 5, 6] rfl rfl (by decide) (by decide) (by decide) (fun _ => rfl) (fun  u H locs hw hP hD hS => ?_)
      obtain ⟨xa2_31, xt2_32, xg2_33, xf2_34⟩ := u
      have hP : va_P G.1 vwCl [(e0, .inr (5, [.ref e01, .int xl, .int xf2_34, .int xg2_33, .int xa2_31, .int xt2_32, .int xr, .int xn])), aB G e01 400 xb, (t, .inr (6, [.int ns, .int np, .int fu, .int fd, .int fi, .ref t1, .ref t2, .ref t3, .ref t4, .ref t5, .ref t6])), aI G t1 9 sz_, aI G t2 9 pt, aI G t3 9 fh, aI G t4 8 kd, aI G t5 8 nd, aI G t6 8 fw] H := hP
      have hD : va_D A [(e0, .inr (5, [.ref e01, .int xl, .int xf2_34, .int xg2_33, .int xa2_31, .int xt2_32, .int xr, .int xn])), aB G e01 400 xb, (t, .inr (6, [.int ns, .int np, .int fu, .int fd, .int fi, .ref t1, .ref t2, .ref t3, .ref t4, .ref t5, .ref t6])), aI G t1 9 sz_, aI G t2 9 pt, aI G t3 9 fh, aI G t4 8 kd, aI G t5 8 nd, aI G t6 8 fw] := hD
      have hv := hv xa2_31 xt2_32 xg2_33 xf2_34 hw
      refine lv_aload_n hx hb dX5_readStone_58 rfl (lv_at hl 3 rfl) ?_
      refine va_get (D := G.1) (ci := 5) (v := .int xg2_33) (C := RX5) (T := TX5) (N := 8) hx hb hts hinX5 hown hKK.1 hP 0 rfl rfl 3 (by decide) kl25 (fun _ h9 => h9) rfl dX5_readStone_59 ?_
      refine lv_if_ne (tgt := 73) hx hb dX5_readStone_62 (by decide) (fun hc_35 => ?_) (fun hc_35 => ?_)
      · have hv := hv.1 hc_35
        exact x_vret (xa2_31, xt2_32, xg2_33, xf2_34, ns, sz_, pt, fh) hQ hx hb hr hlocks hS dX5_readStone_73 hv hP hD
      · have hv := hv.2 hc_35
        refine lv_aload_n hx hb dX5_readStone_65 rfl (lv_at hl 4 rfl) ?_
        refine lv_iload_n hx hb dX5_readStone_66 rfl (lv_at hl 2 rfl) ?_
        refine lv_iload_n hx hb dX5_readStone_67 rfl (lv_at hl 1 rfl) ?_
        refine lv_iload hx hb dX5_readStone_68 (lv_at hl 0 rfl) ?_
        obtain ⟨hp, hv⟩ := hv
        refine x_callv (wr := [(e0, .inr (5, [.ref e01, .int xl, .int xf2_34, .int xg2_33, .int xa2_31, .int xt2_32, .int xr, .int xn])), aB G e01 400 xb]) (w' := fun (u : (Int32) × (Nat → Int32) × (Nat → Int32) × (Nat → Int32)) => [(e0, .inr (5, [.ref e01, .int xl, .int xf2_34, .int xg2_33, .int xa2_31, .int xt2_32, .int xr, .int xn])), aB G e01 400 xb, (t, .inr (6, [.int u.1, .int np, .int fu, .int fd, .int fi, .ref t1, .ref t2, .ref t3, .ref t4, .ref t5, .ref t6])), aI G t1 9 u.2.1, aI G t2 9 u.2.2.1, aI G t3 9 u.2.2.2, aI G t4 8 kd, aI G t5 8 nd, aI G t6 8 fw]) (x_runV (As := [.int r_5, .int r_13, .int r_21]) (rest := []) (n := 3) (C := RX6) (ci := 6) ⟨hx, hb, hml, hown, hts⟩ (k_X6_addStone l G t t1 t2 t3 t4 t5 t6 _ ns np fu fd fi sz_ pt fh kd nd fw r_5 r_13 r_21 hp) gX5_readStone_X6_addStone rfl (by decide +kernel) ⟨Nat.le_trans (Nat.le_of_ble_eq_true rfl) hRf, Nat.le_trans (Nat.le_of_ble_eq_true rfl) hRl⟩ hKK hSS hS hA hP hD [2, 3, 4, 5, 6, 7, 8] (by decide) rfl rfl rfl 2 rfl rfl hl.1 rfl (Nat.le_of_ble_eq_true rfl) dX5_readStone_70) hP hD hS hA [2, 3, 4, 5, 6, 7, 8] [0, 1] [0, 1, 2, 3, 4, 5, 6, 7, 8] rfl rfl (by decide) (by decide) (by decide) (fun _ => rfl) (fun  u H locs hw hP hD hS => ?_)
        obtain ⟨ns2_37, sz2_38, pt2_39, fh2_40⟩ := u
        obtain ⟨hw0, hw1, hw2, hw3⟩ := hw
        replace hw0 := hw0.symm; subst hw0
        replace hw1 := hw1.symm; subst hw1
        replace hw2 := hw2.symm; subst hw2
        replace hw3 := hw3.symm; subst hw3
        have hP : va_P G.1 vwCl [(e0, .inr (5, [.ref e01, .int xl, .int xf2_34, .int xg2_33, .int xa2_31, .int xt2_32, .int xr, .int xn])), aB G e01 400 xb, (t, .inr (6, [.int (ns + 1), .int np, .int fu, .int fd, .int fi, .ref t1, .ref t2, .ref t3, .ref t4, .ref t5, .ref t6])), aI G t1 9 (upd sz_ ns.toNatClampNeg r_5), aI G t2 9 (upd pt ns.toNatClampNeg r_13), aI G t3 9 (upd fh ns.toNatClampNeg r_21), aI G t4 8 kd, aI G t5 8 nd, aI G t6 8 fw] H := hP
        have hD : va_D A [(e0, .inr (5, [.ref e01, .int xl, .int xf2_34, .int xg2_33, .int xa2_31, .int xt2_32, .int xr, .int xn])), aB G e01 400 xb, (t, .inr (6, [.int (ns + 1), .int np, .int fu, .int fd, .int fi, .ref t1, .ref t2, .ref t3, .ref t4, .ref t5, .ref t6])), aI G t1 9 (upd sz_ ns.toNatClampNeg r_5), aI G t2 9 (upd pt ns.toNatClampNeg r_13), aI G t3 9 (upd fh ns.toNatClampNeg r_21), aI G t4 8 kd, aI G t5 8 nd, aI G t6 8 fw] := hD
        exact x_vret (xa2_31, xt2_32, xg2_33, xf2_34, (ns + 1), (upd sz_ ns.toNatClampNeg r_5), (upd pt ns.toNatClampNeg r_13), (upd fh ns.toNatClampNeg r_21)) hQ hx hb hr hlocks hS dX5_readStone_73 hv hP hD
    · have hv := hv.2 hc_26
      refine lv_aload_n hx hb dX5_readStone_49 rfl (lv_at hl 3 rfl) ?_
      refine lv_iconst (v := 4) hx hb dX5_readStone_50 (by decide) ?_
      refine x_callv (wr := [(t, .inr (6, [.int ns, .int np, .int fu, .int fd, .int fi, .ref t1, .ref t2, .ref t3, .ref t4, .ref t5, .ref t6])), aI G t1 9 sz_, aI G t2 9 pt, aI G t3 9 fh, aI G t4 8 kd, aI G t5 8 nd, aI G t6 8 fw]) (w' := fun (u : (Int32) × (Int32)) => [(e0, .inr (5, [.ref e01, .int xl, .int u.2, .int u.1, .int xa2_22, .int xt2_23, .int xr, .int xn])), aB G e01 400 xb, (t, .inr (6, [.int ns, .int np, .int fu, .int fd, .int fi, .ref t1, .ref t2, .ref t3, .ref t4, .ref t5, .ref t6])), aI G t1 9 sz_, aI G t2 9 pt, aI G t3 9 fh, aI G t4 8 kd, aI G t5 8 nd, aI G t6 8 fw]) (x_runV (As := [.int 4]) (rest := []) (n := 1) (C := RX5) (ci := 5) ⟨hx, hb, hml, hown, hts⟩ (k_X5_fail l G e0 e01 _ xb xl xf2_25 xg2_24 xa2_22 xt2_23 xr xn 4) gX5_readStone_X5_fail rfl (by decide +kernel) ⟨Nat.le_trans (Nat.le_of_ble_eq_true rfl) hRf, Nat.le_trans (Nat.le_of_ble_eq_true rfl) hRl⟩ hKK hSS hS hA hP hD [0, 1] (by decide) rfl rfl rfl 0 rfl rfl hl.1 rfl (Nat.le_of_ble_eq_true rfl) dX5_readStone_51) hP hD hS hA [0, 1] [2, 3, 4, 5, 6, 7, 8] [7, 8, 0, 1, 2, 3, 4, 5, 6] rfl rfl (by decide) (by decide) (by decide) (fun _ => rfl) (fun  u H locs hw hP hD hS => ?_)
      obtain ⟨xg2_42, xf2_43⟩ := u
      obtain ⟨hw0, hw1⟩ := hw
      replace hw0 := hw0.symm; subst hw0
      replace hw1 := hw1.symm; subst hw1
      have hP : va_P G.1 vwCl [(e0, .inr (5, [.ref e01, .int xl, .int (if xg2_24 = 0 then xt2_23 else xf2_25), .int (if xg2_24 = 0 then 4 else xg2_24), .int xa2_22, .int xt2_23, .int xr, .int xn])), aB G e01 400 xb, (t, .inr (6, [.int ns, .int np, .int fu, .int fd, .int fi, .ref t1, .ref t2, .ref t3, .ref t4, .ref t5, .ref t6])), aI G t1 9 sz_, aI G t2 9 pt, aI G t3 9 fh, aI G t4 8 kd, aI G t5 8 nd, aI G t6 8 fw] H := hP
      have hD : va_D A [(e0, .inr (5, [.ref e01, .int xl, .int (if xg2_24 = 0 then xt2_23 else xf2_25), .int (if xg2_24 = 0 then 4 else xg2_24), .int xa2_22, .int xt2_23, .int xr, .int xn])), aB G e01 400 xb, (t, .inr (6, [.int ns, .int np, .int fu, .int fd, .int fi, .ref t1, .ref t2, .ref t3, .ref t4, .ref t5, .ref t6])), aI G t1 9 sz_, aI G t2 9 pt, aI G t3 9 fh, aI G t4 8 kd, aI G t5 8 nd, aI G t6 8 fw] := hD
      refine lv_aload_n hx hb dX5_readStone_54 rfl (lv_at hl 3 rfl) ?_
      obtain ⟨gB_44, gL_45, gst_46, hv⟩ := hv
      obtain ⟨hp, hv⟩ := hv
      refine x_callv (wr := [(t, .inr (6, [.int ns, .int np, .int fu, .int fd, .int fi, .ref t1, .ref t2, .ref t3, .ref t4, .ref t5, .ref t6])), aI G t1 9 sz_, aI G t2 9 pt, aI G t3 9 fh, aI G t4 8 kd, aI G t5 8 nd, aI G t6 8 fw]) (w' := fun (u : (Int32) × (Int32) × (Int32) × (Int32)) => [(e0, .inr (5, [.ref e01, .int xl, .int u.2.2.2, .int u.2.2.1, .int u.1, .int u.2.1, .int xr, .int xn])), aB G e01 400 xb, (t, .inr (6, [.int ns, .int np, .int fu, .int fd, .int fi, .ref t1, .ref t2, .ref t3, .ref t4, .ref t5, .ref t6])), aI G t1 9 sz_, aI G t2 9 pt, aI G t3 9 fh, aI G t4 8 kd, aI G t5 8 nd, aI G t6 8 fw]) (x_runV (As := []) (rest := []) (n := 0) (C := RX5) (ci := 5) ⟨hx, hb, hml, hown, hts⟩ (k_X5_readEnd l G e0 e01 _ xb xl (if xg2_24 = 0 then xt2_23 else xf2_25) (if xg2_24 = 0 then 4 else xg2_24) xa2_22 xt2_23 xr xn gB_44 gL_45 gst_46 hp) gX5_readStone_X5_readEnd rfl (by decide +kernel) ⟨Nat.le_trans (Nat.le_of_ble_eq_true rfl) hRf, Nat.le_trans (Nat.le_of_ble_eq_true rfl) hRl⟩ hKK hSS hS hA hP hD [0, 1] (by decide) rfl rfl rfl 0 rfl rfl hl.1 rfl (Nat.le_of_ble_eq_true rfl) dX5_readStone_55) hP hD hS hA [0, 1] [2, 3, 4, 5, 6, 7, 8] [7, 8, 0, 1, 2, 3, 4, 5, 6] rfl rfl (by decide) (by decide) (by decide) (fun _ => rfl) (fun  u H locs hw hP hD hS => ?_)
      obtain ⟨xa2_48, xt2_49, xg2_50, xf2_51⟩ := u
      have hP : va_P G.1 vwCl [(e0, .inr (5, [.ref e01, .int xl, .int xf2_51, .int xg2_50, .int xa2_48, .int xt2_49, .int xr, .int xn])), aB G e01 400 xb, (t, .inr (6, [.int ns, .int np, .int fu, .int fd, .int fi, .ref t1, .ref t2, .ref t3, .ref t4, .ref t5, .ref t6])), aI G t1 9 sz_, aI G t2 9 pt, aI G t3 9 fh, aI G t4 8 kd, aI G t5 8 nd, aI G t6 8 fw] H := hP
      have hD : va_D A [(e0, .inr (5, [.ref e01, .int xl, .int xf2_51, .int xg2_50, .int xa2_48, .int xt2_49, .int xr, .int xn])), aB G e01 400 xb, (t, .inr (6, [.int ns, .int np, .int fu, .int fd, .int fi, .ref t1, .ref t2, .ref t3, .ref t4, .ref t5, .ref t6])), aI G t1 9 sz_, aI G t2 9 pt, aI G t3 9 fh, aI G t4 8 kd, aI G t5 8 nd, aI G t6 8 fw] := hD
      have hv := hv xa2_48 xt2_49 xg2_50 xf2_51 hw
      refine lv_aload_n hx hb dX5_readStone_58 rfl (lv_at hl 3 rfl) ?_
      refine va_get (D := G.1) (ci := 5) (v := .int xg2_50) (C := RX5) (T := TX5) (N := 8) hx hb hts hinX5 hown hKK.1 hP 0 rfl rfl 3 (by decide) kl25 (fun _ h9 => h9) rfl dX5_readStone_59 ?_
      refine lv_if_ne (tgt := 73) hx hb dX5_readStone_62 (by decide) (fun hc_52 => ?_) (fun hc_52 => ?_)
      · have hv := hv.1 hc_52
        exact x_vret (xa2_48, xt2_49, xg2_50, xf2_51, ns, sz_, pt, fh) hQ hx hb hr hlocks hS dX5_readStone_73 hv hP hD
      · have hv := hv.2 hc_52
        refine lv_aload_n hx hb dX5_readStone_65 rfl (lv_at hl 4 rfl) ?_
        refine lv_iload_n hx hb dX5_readStone_66 rfl (lv_at hl 2 rfl) ?_
        refine lv_iload_n hx hb dX5_readStone_67 rfl (lv_at hl 1 rfl) ?_
        refine lv_iload hx hb dX5_readStone_68 (lv_at hl 0 rfl) ?_
        obtain ⟨hp, hv⟩ := hv
        refine x_callv (wr := [(e0, .inr (5, [.ref e01, .int xl, .int xf2_51, .int xg2_50, .int xa2_48, .int xt2_49, .int xr, .int xn])), aB G e01 400 xb]) (w' := fun (u : (Int32) × (Nat → Int32) × (Nat → Int32) × (Nat → Int32)) => [(e0, .inr (5, [.ref e01, .int xl, .int xf2_51, .int xg2_50, .int xa2_48, .int xt2_49, .int xr, .int xn])), aB G e01 400 xb, (t, .inr (6, [.int u.1, .int np, .int fu, .int fd, .int fi, .ref t1, .ref t2, .ref t3, .ref t4, .ref t5, .ref t6])), aI G t1 9 u.2.1, aI G t2 9 u.2.2.1, aI G t3 9 u.2.2.2, aI G t4 8 kd, aI G t5 8 nd, aI G t6 8 fw]) (x_runV (As := [.int r_5, .int r_13, .int r_21]) (rest := []) (n := 3) (C := RX6) (ci := 6) ⟨hx, hb, hml, hown, hts⟩ (k_X6_addStone l G t t1 t2 t3 t4 t5 t6 _ ns np fu fd fi sz_ pt fh kd nd fw r_5 r_13 r_21 hp) gX5_readStone_X6_addStone rfl (by decide +kernel) ⟨Nat.le_trans (Nat.le_of_ble_eq_true rfl) hRf, Nat.le_trans (Nat.le_of_ble_eq_true rfl) hRl⟩ hKK hSS hS hA hP hD [2, 3, 4, 5, 6, 7, 8] (by decide) rfl rfl rfl 2 rfl rfl hl.1 rfl (Nat.le_of_ble_eq_true rfl) dX5_readStone_70) hP hD hS hA [2, 3, 4, 5, 6, 7, 8] [0, 1] [0, 1, 2, 3, 4, 5, 6, 7, 8] rfl rfl (by decide) (by decide) (by decide) (fun _ => rfl) (fun  u H locs hw hP hD hS => ?_)
        obtain ⟨ns2_54, sz2_55, pt2_56, fh2_57⟩ := u
        obtain ⟨hw0, hw1, hw2, hw3⟩ := hw
        replace hw0 := hw0.symm; subst hw0
        replace hw1 := hw1.symm; subst hw1
        replace hw2 := hw2.symm; subst hw2
        replace hw3 := hw3.symm; subst hw3
        have hP : va_P G.1 vwCl [(e0, .inr (5, [.ref e01, .int xl, .int xf2_51, .int xg2_50, .int xa2_48, .int xt2_49, .int xr, .int xn])), aB G e01 400 xb, (t, .inr (6, [.int (ns + 1), .int np, .int fu, .int fd, .int fi, .ref t1, .ref t2, .ref t3, .ref t4, .ref t5, .ref t6])), aI G t1 9 (upd sz_ ns.toNatClampNeg r_5), aI G t2 9 (upd pt ns.toNatClampNeg r_13), aI G t3 9 (upd fh ns.toNatClampNeg r_21), aI G t4 8 kd, aI G t5 8 nd, aI G t6 8 fw] H := hP
        have hD : va_D A [(e0, .inr (5, [.ref e01, .int xl, .int xf2_51, .int xg2_50, .int xa2_48, .int xt2_49, .int xr, .int xn])), aB G e01 400 xb, (t, .inr (6, [.int (ns + 1), .int np, .int fu, .int fd, .int fi, .ref t1, .ref t2, .ref t3, .ref t4, .ref t5, .ref t6])), aI G t1 9 (upd sz_ ns.toNatClampNeg r_5), aI G t2 9 (upd pt ns.toNatClampNeg r_13), aI G t3 9 (upd fh ns.toNatClampNeg r_21), aI G t4 8 kd, aI G t5 8 nd, aI G t6 8 fw] := hD
        exact x_vret (xa2_48, xt2_49, xg2_50, xf2_51, (ns + 1), (upd sz_ ns.toNatClampNeg r_5), (upd pt ns.toNatClampNeg r_13), (upd fh ns.toNatClampNeg r_21)) hQ hx hb hr hlocks hS dX5_readStone_73 hv hP hD
  · have hv := hv.2 hc_1
    refine lv_aload_n hx hb dX5_readStone_9 rfl (lv_at hl 0 rfl) ?_
    refine lv_iconst (v := 3) hx hb dX5_readStone_10 (by decide) ?_
    refine x_callv (wr := [(t, .inr (6, [.int ns, .int np, .int fu, .int fd, .int fi, .ref t1, .ref t2, .ref t3, .ref t4, .ref t5, .ref t6])), aI G t1 9 sz_, aI G t2 9 pt, aI G t3 9 fh, aI G t4 8 kd, aI G t5 8 nd, aI G t6 8 fw]) (w' := fun (u : (Int32) × (Int32)) => [(e0, .inr (5, [.ref e01, .int xl, .int u.2, .int u.1, .int xa, .int xt, .int xr, .int xn])), aB G e01 400 xb, (t, .inr (6, [.int ns, .int np, .int fu, .int fd, .int fi, .ref t1, .ref t2, .ref t3, .ref t4, .ref t5, .ref t6])), aI G t1 9 sz_, aI G t2 9 pt, aI G t3 9 fh, aI G t4 8 kd, aI G t5 8 nd, aI G t6 8 fw]) (x_runV (As := [.int 3]) (rest := []) (n := 1) (C := RX5) (ci := 5) ⟨hx, hb, hml, hown, hts⟩ (k_X5_fail l G e0 e01 _ xb xl xf xg xa xt xr xn 3) gX5_readStone_X5_fail rfl (by decide +kernel) ⟨Nat.le_trans (Nat.le_of_ble_eq_true rfl) hRf, Nat.le_trans (Nat.le_of_ble_eq_true rfl) hRl⟩ hKK hSS hS hA hP hD [0, 1] (by decide) rfl rfl rfl 0 rfl rfl hl.1 rfl (Nat.le_of_ble_eq_true rfl) dX5_readStone_11) hP hD hS hA [0, 1] [2, 3, 4, 5, 6, 7, 8] [7, 8, 0, 1, 2, 3, 4, 5, 6] rfl rfl (by decide) (by decide) (by decide) (fun _ => rfl) (fun  u H locs hw hP hD hS => ?_)
    obtain ⟨xg2_59, xf2_60⟩ := u
    obtain ⟨hw0, hw1⟩ := hw
    replace hw0 := hw0.symm; subst hw0
    replace hw1 := hw1.symm; subst hw1
    have hP : va_P G.1 vwCl [(e0, .inr (5, [.ref e01, .int xl, .int (if xg = 0 then xt else xf), .int (if xg = 0 then 3 else xg), .int xa, .int xt, .int xr, .int xn])), aB G e01 400 xb, (t, .inr (6, [.int ns, .int np, .int fu, .int fd, .int fi, .ref t1, .ref t2, .ref t3, .ref t4, .ref t5, .ref t6])), aI G t1 9 sz_, aI G t2 9 pt, aI G t3 9 fh, aI G t4 8 kd, aI G t5 8 nd, aI G t6 8 fw] H := hP
    have hD : va_D A [(e0, .inr (5, [.ref e01, .int xl, .int (if xg = 0 then xt else xf), .int (if xg = 0 then 3 else xg), .int xa, .int xt, .int xr, .int xn])), aB G e01 400 xb, (t, .inr (6, [.int ns, .int np, .int fu, .int fd, .int fi, .ref t1, .ref t2, .ref t3, .ref t4, .ref t5, .ref t6])), aI G t1 9 sz_, aI G t2 9 pt, aI G t3 9 fh, aI G t4 8 kd, aI G t5 8 nd, aI G t6 8 fw] := hD
    exact x_vret (xa, xt, (if xg = 0 then 3 else xg), (if xg = 0 then xt else xf), ns, sz_, pt, fh) hQ hx hb hr hlocks hS dX5_readStone_14 hv hP hD
theorem v_X5_readStone (l : Launch) (G : Gt) (e0 e01 t t1 t2 t3 t4 t5 t6 : Nat) (sz : Nat) (xb : Nat → Int32) (xl : Int32) (xf : Int32) (xg : Int32) (xa : Int32) (xt : Int32) (xr : Int32) (xn : Int32) (ns : Int32) (np : Int32) (fu : Int32) (fd : Int32) (fi : Int32) (sz_ : Nat → Int32) (pt : Nat → Int32) (fh : Nat → Int32) (kd : Nat → Int32) (nd : Nat → Int32) (fw : Nat → Int32) (B : Nat → Int) (L : Nat) (aq : Nat) (wq : Nat) (tq : PTn) (hp : CX B L xb xl ∧ CSo L aq xg xf xa ∧ xt = nI wq ∧ CW tq ns np fu fd fi sz_ pt fh kd nd fw ∧ xr = flg tq.2.2.2.1 ∧ xn = flg tq.2.2.2.2 ∧ tq.1 ≤ 9 ∧ tq.2.1 ≤ 8) : (ns < 9 → ∃ (gB_2 : Nat → Int) (gL_3 : Nat) (gst_4 : Flt ⊕ Nat), ((CX gB_2 gL_3 xb xl ∧ CSs gL_3 gst_4 xg xf xa) ∧ (∀ (r_5 : Int32) (xa2_6 : Int32) (xt2_7 : Int32) (xg2_8 : Int32) (xf2_9 : Int32), (CSn gL_3 (bnd gst_4 (nuR gB_2 gL_3 (1 : Int32).toInt (9999 : Int32).toInt)) r_5 xg2_8 xf2_9 xa2_6 xt2_7) → (∃ (gB_10 : Nat → Int) (gL_11 : Nat) (gst_12 : Flt ⊕ Nat), ((CX gB_10 gL_11 xb xl ∧ CSs gL_11 gst_12 xg2_8 xf2_9 xa2_6) ∧ (∀ (r_13 : Int32) (xa2_14 : Int32) (xt2_15 : Int32) (xg2_16 : Int32) (xf2_17 : Int32), (CSn gL_11 (bnd gst_12 (nuR gB_10 gL_11 (2 : Int32).toInt (999 : Int32).toInt)) r_13 xg2_16 xf2_17 xa2_14 xt2_15) → (∃ (gB_18 : Nat → Int) (gL_19 : Nat) (gst_20 : Flt ⊕ Nat), ((CX gB_18 gL_19 xb xl ∧ CSs gL_19 gst_20 xg2_16 xf2_17 xa2_14) ∧ (∀ (r_21 : Int32) (xa2_22 : Int32) (xt2_23 : Int32) (xg2_24 : Int32) (xf2_25 : Int32), (CSn gL_19 (bnd gst_20 (nuR gB_18 gL_19 (0 : Int32).toInt (9999 : Int32).toInt)) r_21 xg2_24 xf2_25 xa2_22 xt2_23) → ((r_21 ≤ r_5 → ∃ (gB_27 : Nat → Int) (gL_28 : Nat) (gst_29 : Flt ⊕ Nat), ((CX gB_27 gL_28 xb xl ∧ CSs gL_28 gst_29 xg2_24 xf2_25 xa2_22) ∧ (∀ (xa2_31 : Int32) (xt2_32 : Int32) (xg2_33 : Int32) (xf2_34 : Int32), (CSs gL_28 (bnd gst_29 (smR gB_27 gL_28)) xg2_33 xf2_34 xa2_31) → ((¬ xg2_33 = 0 → CP L (smc B L (stC B L wq aq tq)) xg2_33 xf2_34 xa2_31 xr xn ns np fu fd fi sz_ pt fh kd nd fw) ∧ (xg2_33 = 0 → (vp_in ns 9 ∧ ns < 9) ∧ (CP L (smc B L (stC B L wq aq tq)) xg2_33 xf2_34 xa2_31 xr xn (ns + 1) np fu fd fi (upd sz_ ns.toNatClampNeg r_5) (upd pt ns.toNatClampNeg r_13) (upd fh ns.toNatClampNeg r_21) kd nd fw)))))) ∧ (¬ (r_21 ≤ r_5) → ∃ (gB_44 : Nat → Int) (gL_45 : Nat) (gst_46 : Flt ⊕ Nat), ((CX gB_44 gL_45 xb xl ∧ CSs gL_45 gst_46 ((if xg2_24 = 0 then 4 else xg2_24) : Int32) ((if xg2_24 = 0 then xt2_23 else xf2_25) : Int32) xa2_22) ∧ (∀ (xa2_48 : Int32) (xt2_49 : Int32) (xg2_50 : Int32) (xf2_51 : Int32), (CSs gL_45 (bnd gst_46 (smR gB_44 gL_45)) xg2_50 xf2_51 xa2_48) → ((¬ xg2_50 = 0 → CP L (smc B L (stC B L wq aq tq)) xg2_50 xf2_51 xa2_48 xr xn ns np fu fd fi sz_ pt fh kd nd fw) ∧ (xg2_50 = 0 → (vp_in ns 9 ∧ ns < 9) ∧ (CP L (smc B L (stC B L wq aq tq)) xg2_50 xf2_51 xa2_48 xr xn (ns + 1) np fu fd fi (upd sz_ ns.toNatClampNeg r_5) (upd pt ns.toNatClampNeg r_13) (upd fh ns.toNatClampNeg r_21) kd nd fw)))))))))))))))) ∧ (¬ (ns < 9) → CP L (smc B L (stC B L wq aq tq)) (if xg = 0 then 3 else xg) (if xg = 0 then xt else xf) xa xr xn ns np fu fd fi sz_ pt fh kd nd fw) := by
  obtain ⟨hX, ⟨ha, rfl, rfl, rfl⟩, rfl, hW, rfl, rfl, h9, h8⟩ := hp
  obtain ⟨n0, p0, T, ff, fn⟩ := tq
  have hL := hX.1
  dsimp only at h9 h8 ⊢
  have hns : ns = nI n0 := hW.1.1
  have hnp : np = nI p0 := hW.1.2.1
  have hlt9 : ns < 9 ↔ n0 < 9 := by rw [hns]; exact nI_ltI (b := 9) (by omega) (by omega)
  have cn : ns.toNatClampNeg = n0 := by rw [hns]; exact nI_clamp (by omega)
  rw [hlt9, cn]
  simp only [if_true]
  refine ⟨fun hlt => ?_, fun hlt => ?_⟩
  · have vn : vp_in ns 9 := by rw [hns]; exact vp_in_nI (by omega) (by omega)
    refine ⟨B, L, .inr aq, ⟨hX, ha, rfl, rfl, rfl⟩, fun r1 a1 t1 g1 f1 h1 => ?_⟩
    have h1 : CSn L (nuR B L 1 9999 aq) r1 g1 f1 a1 t1 := h1
    cases q1 : nuR B L 1 9999 aq with
    | inl x =>
      rw [q1] at h1
      have e : smc B L (stC B L wq aq (n0, p0, T, ff, fn)) = .inl x := by unfold stC; rw [stN_1 hlt q1]; rfl
      refine ⟨B, L, .inl x, ⟨hX, h1⟩, fun r2 a2 t2 g2 f2 h2 => ⟨B, L, .inl x, ⟨hX, h2⟩, fun r3 a3 t3 g3 f3 h3 => ?_⟩⟩
      have h3 : CSf L x g3 f3 a3 := h3
      exact ⟨fun _ => ⟨B, L, .inl x, ⟨hX, h3⟩, fun a4 t4 g4 f4 h4 => ⟨fun _ => by rw [e]; exact h4, fun z => absurd z (CSf.ne h4)⟩⟩, fun _ => ⟨B, L, .inl x, ⟨hX, by rw [if_neg h3.ne, if_neg h3.ne]; exact h3⟩, fun a4 t4 g4 f4 h4 => ⟨fun _ => by rw [e]; exact h4, fun z => absurd z (CSf.ne h4)⟩⟩⟩
    | inr o1 =>
      obtain ⟨b1, u1, v1⟩ := o1
      rw [q1] at h1
      obtain ⟨k1, rfl, w1⟩ := h1
      refine ⟨B, L, .inr b1, ⟨hX, k1⟩, fun r2 a2 t2 g2 f2 h2 => ?_⟩
      have h2 : CSn L (nuR B L 2 999 b1) r2 g2 f2 a2 t2 := h2
      cases q2 : nuR B L 2 999 b1 with
      | inl x =>
        rw [q2] at h2
        have e : smc B L (stC B L wq aq (n0, p0, T, ff, fn)) = .inl x := by unfold stC; rw [stN_2 hlt q1 q2]; rfl
        refine ⟨B, L, .inl x, ⟨hX, h2⟩, fun r3 a3 t3 g3 f3 h3 => ?_⟩
        have h3 : CSf L x g3 f3 a3 := h3
        exact ⟨fun _ => ⟨B, L, .inl x, ⟨hX, h3⟩, fun a4 t4 g4 f4 h4 => ⟨fun _ => by rw [e]; exact h4, fun z => absurd z (CSf.ne h4)⟩⟩, fun _ => ⟨B, L, .inl x, ⟨hX, by rw [if_neg h3.ne, if_neg h3.ne]; exact h3⟩, fun a4 t4 g4 f4 h4 => ⟨fun _ => by rw [e]; exact h4, fun z => absurd z (CSf.ne h4)⟩⟩⟩
      | inr o2 =>
        obtain ⟨b2, u2, v2⟩ := o2
        rw [q2] at h2
        obtain ⟨k2, rfl, w2⟩ := h2
        refine ⟨B, L, .inr b2, ⟨hX, k2⟩, fun r3 a3 t3 g3 f3 h3 => ?_⟩
        have h3 : CSn L (nuR B L 0 9999 b2) r3 g3 f3 a3 t3 := h3
        cases q3 : nuR B L 0 9999 b2 with
        | inl x =>
          rw [q3] at h3
          have e : smc B L (stC B L wq aq (n0, p0, T, ff, fn)) = .inl x := by unfold stC; rw [stN_3 hlt q1 q2 q3]; rfl
          have h3 : CSf L x g3 f3 a3 := h3
          exact ⟨fun _ => ⟨B, L, .inl x, ⟨hX, h3⟩, fun a4 t4 g4 f4 h4 => ⟨fun _ => by rw [e]; exact h4, fun z => absurd z (CSf.ne h4)⟩⟩, fun _ => ⟨B, L, .inl x, ⟨hX, by rw [if_neg h3.ne, if_neg h3.ne]; exact h3⟩, fun a4 t4 g4 f4 h4 => ⟨fun _ => by rw [e]; exact h4, fun z => absurd z (CSf.ne h4)⟩⟩⟩
        | inr o3 =>
          obtain ⟨b3, u3, v3⟩ := o3
          rw [q3] at h3
          obtain ⟨⟨k3, rfl, rfl, rfl⟩, rfl, w3⟩ := h3
          have hcmp : r3 ≤ r1 ↔ v3 ≤ v1 := i_le w3 w1
          rw [hcmp]
          simp only [if_true]
          refine ⟨fun hle => ?_, fun hle => ?_⟩
          · have e5 : stN B L n0 wq aq = .inr (b3, v1, v2, v3) := stN_5 hlt q1 q2 q3 (by omega)
            refine ⟨B, L, .inr b3, ⟨hX, k3, rfl, rfl, rfl⟩, fun a4 t4 g4 f4 h4 => ?_⟩
            have h4 : CSs L (smR B L b3) g4 f4 a4 := h4
            cases q4 : smR B L b3 with
            | inl x =>
              rw [q4] at h4
              have e : smc B L (stC B L wq aq (n0, p0, T, ff, fn)) = .inl x := by unfold stC; rw [e5]; exact smc_f q4
              exact ⟨fun _ => by rw [e]; exact h4, fun z => absurd z (CSf.ne h4)⟩
            | inr b4 =>
              rw [q4] at h4
              have e : smc B L (stC B L wq aq (n0, p0, T, ff, fn)) = .inr (b4, n0 + 1, p0, uT (uT (uT T 0 n0 v1) 1 n0 v2) 5 n0 v3, ff, fn) := by unfold stC; rw [e5]; exact smc_o q4
              rw [e]
              exact ⟨fun z => absurd h4.2.1 z, fun _ => ⟨⟨vn, hlt⟩, h4, CW_stone hW w1 w2 w3, rfl, rfl⟩⟩
          · have e : smc B L (stC B L wq aq (n0, p0, T, ff, fn)) = .inl (4, u3) := by unfold stC; rw [stN_4 hlt q1 q2 q3 (by omega)]; rfl
            exact ⟨B, L, .inl (4, u3), ⟨hX, CSf.mk (f := 4) (by decide) (by decide) k3⟩, fun a4 t4 g4 f4 h4 => ⟨fun _ => by rw [e]; exact h4, fun z => absurd z (CSf.ne h4)⟩⟩
  · have e : smc B L (stC B L wq aq (n0, p0, T, ff, fn)) = .inl (3, wq) := by unfold stC; rw [stN_9 (show 9 ≤ n0 by omega)]; rfl
    rw [e]
    exact CSf.mk (f := 3) (by decide) (by decide) ha
theorem k_X5_readStone (l : Launch) (G : Gt) (e0 e01 t t1 t2 t3 t4 t5 t6 : Nat) (sz : Nat) (xb : Nat → Int32) (xl : Int32) (xf : Int32) (xg : Int32) (xa : Int32) (xt : Int32) (xr : Int32) (xn : Int32) (ns : Int32) (np : Int32) (fu : Int32) (fd : Int32) (fi : Int32) (sz_ : Nat → Int32) (pt : Nat → Int32) (fh : Nat → Int32) (kd : Nat → Int32) (nd : Nat → Int32) (fw : Nat → Int32) (B : Nat → Int) (L : Nat) (aq : Nat) (wq : Nat) (tq : PTn) (hp : CX B L xb xl ∧ CSo L aq xg xf xa ∧ xt = nI wq ∧ CW tq ns np fu fd fi sz_ pt fh kd nd fw ∧ xr = flg tq.2.2.2.1 ∧ xn = flg tq.2.2.2.2 ∧ tq.1 ≤ 9 ∧ tq.2.1 ≤ 8) : MetV l yX5_readStone wsX5_readStone 2 45 G [.ref e0, .ref t] [(e0, .inr (5, [.ref e01, .int xl, .int xf, .int xg, .int xa, .int xt, .int xr, .int xn])), aB G e01 400 xb, (t, .inr (6, [.int ns, .int np, .int fu, .int fd, .int fi, .ref t1, .ref t2, .ref t3, .ref t4, .ref t5, .ref t6])), aI G t1 9 sz_, aI G t2 9 pt, aI G t3 9 fh, aI G t4 8 kd, aI G t5 8 nd, aI G t6 8 fw] sz (fun (u : (Int32) × (Int32) × (Int32) × (Int32) × (Int32) × (Nat → Int32) × (Nat → Int32) × (Nat → Int32)) => CP L (smc B L (stC B L wq aq tq)) u.2.2.1 u.2.2.2.1 u.1 xr xn u.2.2.2.2.1 np fu fd fi u.2.2.2.2.2.1 u.2.2.2.2.2.2.1 u.2.2.2.2.2.2.2 kd nd fw) (fun (u : (Int32) × (Int32) × (Int32) × (Int32) × (Int32) × (Nat → Int32) × (Nat → Int32) × (Nat → Int32)) => [(e0, .inr (5, [.ref e01, .int xl, .int u.2.2.2.1, .int u.2.2.1, .int u.1, .int u.2.1, .int xr, .int xn])), aB G e01 400 xb, (t, .inr (6, [.int u.2.2.2.2.1, .int np, .int fu, .int fd, .int fi, .ref t1, .ref t2, .ref t3, .ref t4, .ref t5, .ref t6])), aI G t1 9 u.2.2.2.2.2.1, aI G t2 9 u.2.2.2.2.2.2.1, aI G t3 9 u.2.2.2.2.2.2.2, aI G t4 8 kd, aI G t5 8 nd, aI G t6 8 fw]) :=
  c_X5_readStone l G e0 e01 t t1 t2 t3 t4 t5 t6 sz xb xl xf xg xa xt xr xn ns np fu fd fi sz_ pt fh kd nd fw B L aq wq tq (v_X5_readStone l G e0 e01 t t1 t2 t3 t4 t5 t6 sz xb xl xf xg xa xt xr xn ns np fu fd fi sz_ pt fh kd nd fw B L aq wq tq hp)

set_option maxHeartbeats 4000000 in
set_option maxRecDepth 100000 in
theorem c_X5_readPerson (l : Launch) (G : Gt) (e0 e01 t t1 t2 t3 t4 t5 t6 : Nat) (sz : Nat) (xb : Nat → Int32) (xl : Int32) (xf : Int32) (xg : Int32) (xa : Int32) (xt : Int32) (xr : Int32) (xn : Int32) (ns : Int32) (np : Int32) (fu : Int32) (fd : Int32) (fi : Int32) (sz_ : Nat → Int32) (pt : Nat → Int32) (fh : Nat → Int32) (kd : Nat → Int32) (nd : Nat → Int32) (fw : Nat → Int32) (B : Nat → Int) (L : Nat) (aq : Nat) (wq : Nat) (tq : PTn) (hv : (np < 8 → ∃ (gB_2 : Nat → Int) (gL_3 : Nat) (gaq_4 : Nat), ((CX gB_2 gL_3 xb xl ∧ CSo gL_3 gaq_4 xg xf xa) ∧ (∀ (r_5 : Int32) (xa2_6 : Int32) (xt2_7 : Int32) (xg2_8 : Int32) (xf2_9 : Int32), (CSk gL_3 (kiR gB_2 gL_3 gaq_4) r_5 xg2_8 xf2_9 xa2_6) → (∃ (gB_10 : Nat → Int) (gL_11 : Nat) (gst_12 : Flt ⊕ Nat), ((CX gB_10 gL_11 xb xl ∧ CSs gL_11 gst_12 xg2_8 xf2_9 xa2_6) ∧ (∀ (r_13 : Int32) (xa2_14 : Int32) (xt2_15 : Int32) (xg2_16 : Int32) (xf2_17 : Int32), (CSn gL_11 (bnd gst_12 (nuR gB_10 gL_11 (0 : Int32).toInt (9999 : Int32).toInt)) r_13 xg2_16 xf2_17 xa2_14 xt2_15) → (∃ (gB_18 : Nat → Int) (gL_19 : Nat) (gst_20 : Flt ⊕ Nat), ((CX gB_18 gL_19 xb xl ∧ CSs gL_19 gst_20 xg2_16 xf2_17 xa2_14) ∧ (∀ (r_21 : Int32) (xa2_22 : Int32) (xt2_23 : Int32) (xg2_24 : Int32) (xf2_25 : Int32), (CSn gL_19 (bnd gst_20 (nuR gB_18 gL_19 (0 : Int32).toInt (9999 : Int32).toInt)) r_21 xg2_24 xf2_25 xa2_22 xt2_23) → (∃ (gB_26 : Nat → Int) (gL_27 : Nat) (gst_28 : Flt ⊕ Nat), ((CX gB_26 gL_27 xb xl ∧ CSs gL_27 gst_28 xg2_24 xf2_25 xa2_22) ∧ (∀ (xa2_30 : Int32) (xt2_31 : Int32) (xg2_32 : Int32) (xf2_33 : Int32), (CSs gL_27 (bnd gst_28 (smR gB_26 gL_27)) xg2_32 xf2_33 xa2_30) → ((¬ xg2_32 = 0 → CP L (smc B L (peC B L wq aq tq)) xg2_32 xf2_33 xa2_30 xr xn ns np fu fd fi sz_ pt fh kd nd fw) ∧ (xg2_32 = 0 → (vp_in np 8 ∧ np < 8) ∧ (CP L (smc B L (peC B L wq aq tq)) xg2_32 xf2_33 xa2_30 xr xn ns (np + 1) fu fd fi sz_ pt fh (upd kd np.toNatClampNeg r_5) (upd nd np.toNatClampNeg r_21) (upd fw np.toNatClampNeg r_13)))))))))))))))) ∧ (¬ (np < 8) → CP L (smc B L (peC B L wq aq tq)) (if xg = 0 then 3 else xg) (if xg = 0 then xt else xf) xa xr xn ns np fu fd fi sz_ pt fh kd nd fw)) : MetV l yX5_readPerson wsX5_readPerson 6 127 G [.ref e0, .ref t] [(e0, .inr (5, [.ref e01, .int xl, .int xf, .int xg, .int xa, .int xt, .int xr, .int xn])), aB G e01 400 xb, (t, .inr (6, [.int ns, .int np, .int fu, .int fd, .int fi, .ref t1, .ref t2, .ref t3, .ref t4, .ref t5, .ref t6])), aI G t1 9 sz_, aI G t2 9 pt, aI G t3 9 fh, aI G t4 8 kd, aI G t5 8 nd, aI G t6 8 fw] sz (fun (u : (Int32) × (Int32) × (Int32) × (Int32) × (Int32) × (Nat → Int32) × (Nat → Int32) × (Nat → Int32)) => CP L (smc B L (peC B L wq aq tq)) u.2.2.1 u.2.2.2.1 u.1 xr xn ns u.2.2.2.2.1 fu fd fi sz_ pt fh u.2.2.2.2.2.1 u.2.2.2.2.2.2.1 u.2.2.2.2.2.2.2) (fun (u : (Int32) × (Int32) × (Int32) × (Int32) × (Int32) × (Nat → Int32) × (Nat → Int32) × (Nat → Int32)) => [(e0, .inr (5, [.ref e01, .int xl, .int u.2.2.2.1, .int u.2.2.1, .int u.1, .int u.2.1, .int xr, .int xn])), aB G e01 400 xb, (t, .inr (6, [.int ns, .int u.2.2.2.2.1, .int fu, .int fd, .int fi, .ref t1, .ref t2, .ref t3, .ref t4, .ref t5, .ref t6])), aI G t1 9 sz_, aI G t2 9 pt, aI G t3 9 fh, aI G t4 8 u.2.2.2.2.2.1, aI G t5 8 u.2.2.2.2.2.2.1, aI G t6 8 u.2.2.2.2.2.2.2]) := by
  refine x_startV (cc := cX5_readPerson) (maxL := 5) (ret := none) (by decide) rfl (Nat.le_of_ble_eq_true rfl) ?_
  intro p e s m args below meth c A R Q ls hRf hRl hQ C hP hD hS hA hSS hl
  obtain ⟨hx, hb, hr, hml, hown, hts, hlocks, hKK⟩ := C
  have hown : s.vm.findClass RX5 = some m.cls := hown
  have hl : lv_has ls 5 [(0, .ref e0), (1, .ref t)] := hl
  have hinX5 : ∀ w ∈ u_ws RX5 TX5 8, w ∈ wsX5_readPerson := by decide +kernel
  have hinX6 : ∀ w ∈ u_ws RX6 TX6 11, w ∈ wsX5_readPerson := by decide +kernel
  have kl25 := hts (.fieldLink RX5 25 "WarmStones$Text" "fault" "I") (by decide +kernel)
  have kl96 := hts (.fieldLink RX5 96 "WarmStones$Town" "persons" "I") (by decide +kernel)
  refine lv_aload_n hx hb dX5_readPerson_0 rfl (lv_at hl 1 rfl) ?_
  refine va_get (D := G.1) (ci := 6) (v := .int np) (C := RX6) (T := TX6) (N := 11) hx hb hts hinX6 hown hKK.1 hP 2 rfl rfl 1 (by decide) kl96 (fun _ h9 => h9) rfl dX5_readPerson_1 ?_
  refine lv_bipush (v := 8) hx hb dX5_readPerson_4 (by decide) ?_
  refine lv_icmp_lt (tgt := 15) hx hb dX5_readPerson_6 (by decide) (fun hc_1 => ?_) (fun hc_1 => ?_)
  · have hv := hv.1 hc_1
    refine lv_aload_n hx hb dX5_readPerson_15 rfl (lv_at hl 0 rfl) ?_
    obtain ⟨gB_2, gL_3, gaq_4, hv⟩ := hv
    obtain ⟨hp, hv⟩ := hv
    refine x_calli (wr := [(t, .inr (6, [.int ns, .int np, .int fu, .int fd, .int fi, .ref t1, .ref t2, .ref t3, .ref t4, .ref t5, .ref t6])), aI G t1 9 sz_, aI G t2 9 pt, aI G t3 9 fh, aI G t4 8 kd, aI G t5 8 nd, aI G t6 8 fw]) (w' := fun (u : (Int32) × (Int32) × (Int32) × (Int32)) => [(e0, .inr (5, [.ref e01, .int xl, .int u.2.2.2, .int u.2.2.1, .int u.1, .int u.2.1, .int xr, .int xn])), aB G e01 400 xb, (t, .inr (6, [.int ns, .int np, .int fu, .int fd, .int fi, .ref t1, .ref t2, .ref t3, .ref t4, .ref t5, .ref t6])), aI G t1 9 sz_, aI G t2 9 pt, aI G t3 9 fh, aI G t4 8 kd, aI G t5 8 nd, aI G t6 8 fw]) (x_runV (As := []) (rest := []) (n := 0) (C := RX5) (ci := 5) ⟨hx, hb, hml, hown, hts⟩ (k_X5_readKind l G e0 e01 _ xb xl xf xg xa xt xr xn gB_2 gL_3 gaq_4 hp) gX5_readPerson_X5_readKind rfl (by decide +kernel) ⟨Nat.le_trans (Nat.le_of_ble_eq_true rfl) hRf, Nat.le_trans (Nat.le_of_ble_eq_true rfl) hRl⟩ hKK hSS hS hA hP hD [0, 1] (by decide) rfl rfl rfl 0 rfl rfl hl.1 rfl (Nat.le_of_ble_eq_true rfl) dX5_readPerson_16) hP hD hS hA [0, 1] [2, 3, 4, 5, 6, 7, 8] [7, 8, 0, 1, 2, 3, 4, 5, 6] rfl rfl (by decide) (by decide) (by decide) (fun _ => rfl) (fun r_5 u H locs hw hP hD hS => ?_)
    obtain ⟨xa2_6, xt2_7, xg2_8, xf2_9⟩ := u
    have hP : va_P G.1 vwCl [(e0, .inr (5, [.ref e01, .int xl, .int xf2_9, .int xg2_8, .int xa2_6, .int xt2_7, .int xr, .int xn])), aB G e01 400 xb, (t, .inr (6, [.int ns, .int np, .int fu, .int fd, .int fi, .ref t1, .ref t2, .ref t3, .ref t4, .ref t5, .ref t6])), aI G t1 9 sz_, aI G t2 9 pt, aI G t3 9 fh, aI G t4 8 kd, aI G t5 8 nd, aI G t6 8 fw] H := hP
    have hD : va_D A [(e0, .inr (5, [.ref e01, .int xl, .int xf2_9, .int xg2_8, .int xa2_6, .int xt2_7, .int xr, .int xn])), aB G e01 400 xb, (t, .inr (6, [.int ns, .int np, .int fu, .int fd, .int fi, .ref t1, .ref t2, .ref t3, .ref t4, .ref t5, .ref t6])), aI G t1 9 sz_, aI G t2 9 pt, aI G t3 9 fh, aI G t4 8 kd, aI G t5 8 nd, aI G t6 8 fw] := hD
    have hv := hv r_5 xa2_6 xt2_7 xg2_8 xf2_9 hw
    refine lv_istore_n (lv' := [(2, .int r_5), (0, .ref e0), (1, .ref t)]) hx hb dX5_readPerson_19 rfl hl (by decide) rfl (fun ls hl => ?_)
    refine lv_aload_n hx hb dX5_readPerson_20 rfl (lv_at hl 1 rfl) ?_
    refine lv_iconst (v := 0) hx hb dX5_readPerson_21 (by decide) ?_
    refine lv_sipush (v := 9999) hx hb dX5_readPerson_22 (by decide) ?_
    obtain ⟨gB_10, gL_11, gst_12, hv⟩ := hv
    obtain ⟨hp, hv⟩ := hv
    refine x_calli (wr := [(t, .inr (6, [.int ns, .int np, .int fu, .int fd, .int fi, .ref t1, .ref t2, .ref t3, .ref t4, .ref t5, .ref t6])), aI G t1 9 sz_, aI G t2 9 pt, aI G t3 9 fh, aI G t4 8 kd, aI G t5 8 nd, aI G t6 8 fw]) (w' := fun (u : (Int32) × (Int32) × (Int32) × (Int32)) => [(e0, .inr (5, [.ref e01, .int xl, .int u.2.2.2, .int u.2.2.1, .int u.1, .int u.2.1, .int xr, .int xn])), aB G e01 400 xb, (t, .inr (6, [.int ns, .int np, .int fu, .int fd, .int fi, .ref t1, .ref t2, .ref t3, .ref t4, .ref t5, .ref t6])), aI G t1 9 sz_, aI G t2 9 pt, aI G t3 9 fh, aI G t4 8 kd, aI G t5 8 nd, aI G t6 8 fw]) (x_runV (As := [.int 0, .int 9999]) (rest := []) (n := 2) (C := RX5) (ci := 5) ⟨hx, hb, hml, hown, hts⟩ (k_X5_readNumber l G e0 e01 _ xb xl xf2_9 xg2_8 xa2_6 xt2_7 xr xn 0 9999 gB_10 gL_11 gst_12 hp) gX5_readPerson_X5_readNumber rfl (by decide +kernel) ⟨Nat.le_trans (Nat.le_of_ble_eq_true rfl) hRf, Nat.le_trans (Nat.le_of_ble_eq_true rfl) hRl⟩ hKK hSS hS hA hP hD [0, 1] (by decide) rfl rfl rfl 0 rfl rfl hl.1 rfl (Nat.le_of_ble_eq_true rfl) dX5_readPerson_25) hP hD hS hA [0, 1] [2, 3, 4, 5, 6, 7, 8] [7, 8, 0, 1, 2, 3, 4, 5, 6] rfl rfl (by decide) (by decide) (by decide) (fun _ => rfl) (fun r_13 u H locs hw hP hD hS => ?_)
    obtain ⟨xa2_14, xt2_15, xg2_16, xf2_17⟩ := u
    have hP : va_P G.1 vwCl [(e0, .inr (5, [.ref e01, .int xl, .int xf2_17, .int xg2_16, .int xa2_14, .int xt2_15, .int xr, .int xn])), aB G e01 400 xb, (t, .inr (6, [.int ns, .int np, .int fu, .int fd, .int fi, .ref t1, .ref t2, .ref t3, .ref t4, .ref t5, .ref t6])), aI G t1 9 sz_, aI G t2 9 pt, aI G t3 9 fh, aI G t4 8 kd, aI G t5 8 nd, aI G t6 8 fw] H := hP
    have hD : va_D A [(e0, .inr (5, [.ref e01, .int xl, .int xf2_17, .int xg2_16, .int xa2_14, .int xt2_15, .int xr, .int xn])), aB G e01 400 xb, (t, .inr (6, [.int ns, .int np, .int fu, .int fd, .int fi, .ref t1, .ref t2, .ref t3, .ref t4, .ref t5, .ref t6])), aI G t1 9 sz_, aI G t2 9 pt, aI G t3 9 fh, aI G t4 8 kd, aI G t5 8 nd, aI G t6 8 fw] := hD
    have hv := hv r_13 xa2_14 xt2_15 xg2_16 xf2_17 hw
    refine lv_istore_n (lv' := [(3, .int r_13), (2, .int r_5), (0, .ref e0), (1, .ref t)]) hx hb dX5_readPerson_28 rfl hl (by decide) rfl (fun ls hl => ?_)
    refine lv_aload_n hx hb dX5_readPerson_29 rfl (lv_at hl 2 rfl) ?_
    refine lv_iconst (v := 0) hx hb dX5_readPerson_30 (by decide) ?_
    refine lv_sipush (v := 9999) hx hb dX5_readPerson_31 (by decide) ?_
    obtain ⟨gB_18, gL_19, gst_20, hv⟩ := hv
    obtain ⟨hp, hv⟩ := hv
    refine x_calli (wr := [(t, .inr (6, [.int ns, .int np, .int fu, .int fd, .int fi, .ref t1, .ref t2, .ref t3, .ref t4, .ref t5, .ref t6])), aI G t1 9 sz_, aI G t2 9 pt, aI G t3 9 fh, aI G t4 8 kd, aI G t5 8 nd, aI G t6 8 fw]) (w' := fun (u : (Int32) × (Int32) × (Int32) × (Int32)) => [(e0, .inr (5, [.ref e01, .int xl, .int u.2.2.2, .int u.2.2.1, .int u.1, .int u.2.1, .int xr, .int xn])), aB G e01 400 xb, (t, .inr (6, [.int ns, .int np, .int fu, .int fd, .int fi, .ref t1, .ref t2, .ref t3, .ref t4, .ref t5, .ref t6])), aI G t1 9 sz_, aI G t2 9 pt, aI G t3 9 fh, aI G t4 8 kd, aI G t5 8 nd, aI G t6 8 fw]) (x_runV (As := [.int 0, .int 9999]) (rest := []) (n := 2) (C := RX5) (ci := 5) ⟨hx, hb, hml, hown, hts⟩ (k_X5_readNumber l G e0 e01 _ xb xl xf2_17 xg2_16 xa2_14 xt2_15 xr xn 0 9999 gB_18 gL_19 gst_20 hp) gX5_readPerson_X5_readNumber rfl (by decide +kernel) ⟨Nat.le_trans (Nat.le_of_ble_eq_true rfl) hRf, Nat.le_trans (Nat.le_of_ble_eq_true rfl) hRl⟩ hKK hSS hS hA hP hD [0, 1] (by decide) rfl rfl rfl 0 rfl rfl hl.1 rfl (Nat.le_of_ble_eq_true rfl) dX5_readPerson_34) hP hD hS hA [0, 1] [2, 3, 4, 5, 6, 7, 8] [7, 8, 0, 1, 2, 3, 4, 5, 6] rfl rfl (by decide) (by decide) (by decide) (fun _ => rfl) (fun r_21 u H locs hw hP hD hS => ?_)
    obtain ⟨xa2_22, xt2_23, xg2_24, xf2_25⟩ := u
    have hP : va_P G.1 vwCl [(e0, .inr (5, [.ref e01, .int xl, .int xf2_25, .int xg2_24, .int xa2_22, .int xt2_23, .int xr, .int xn])), aB G e01 400 xb, (t, .inr (6, [.int ns, .int np, .int fu, .int fd, .int fi, .ref t1, .ref t2, .ref t3, .ref t4, .ref t5, .ref t6])), aI G t1 9 sz_, aI G t2 9 pt, aI G t3 9 fh, aI G t4 8 kd, aI G t5 8 nd, aI G t6 8 fw] H := hP
    have hD : va_D A [(e0, .inr (5, [.ref e01, .int xl, .int xf2_25, .int xg2_24, .int xa2_22, .int xt2_23, .int xr, .int xn])), aB G e01 400 xb, (t, .inr (6, [.int ns, .int np, .int fu, .int fd, .int fi, .ref t1, .ref t2, .ref t3, .ref t4, .ref t5, .ref t6])), aI G t1 9 sz_, aI G t2 9 pt, aI G t3 9 fh, aI G t4 8 kd, aI G t5 8 nd, aI G t6 8 fw] := hD
    have hv := hv r_21 xa2_22 xt2_23 xg2_24 xf2_25 hw
    refine lv_istore (lv' := [(4, .int r_21), (3, .int r_13), (2, .int r_5), (0, .ref e0), (1, .ref t)]) hx hb dX5_readPerson_37 hl (by decide) rfl (fun ls hl => ?_)
    refine lv_aload_n hx hb dX5_readPerson_39 rfl (lv_at hl 3 rfl) ?_
    obtain ⟨gB_26, gL_27, gst_28, hv⟩ := hv
    obtain ⟨hp, hv⟩ := hv
    refine x_callv (wr := [(t, .inr (6, [.int ns, .int np, .int fu, .int fd, .int fi, .ref t1, .ref t2, .ref t3, .ref t4, .ref t5, .ref t6])), aI G t1 9 sz_, aI G t2 9 pt, aI G t3 9 fh, aI G t4 8 kd, aI G t5 8 nd, aI G t6 8 fw]) (w' := fun (u : (Int32) × (Int32) × (Int32) × (Int32)) => [(e0, .inr (5, [.ref e01, .int xl, .int u.2.2.2, .int u.2.2.1, .int u.1, .int u.2.1, .int xr, .int xn])), aB G e01 400 xb, (t, .inr (6, [.int ns, .int np, .int fu, .int fd, .int fi, .ref t1, .ref t2, .ref t3, .ref t4, .ref t5, .ref t6])), aI G t1 9 sz_, aI G t2 9 pt, aI G t3 9 fh, aI G t4 8 kd, aI G t5 8 nd, aI G t6 8 fw]) (x_runV (As := []) (rest := []) (n := 0) (C := RX5) (ci := 5) ⟨hx, hb, hml, hown, hts⟩ (k_X5_readEnd l G e0 e01 _ xb xl xf2_25 xg2_24 xa2_22 xt2_23 xr xn gB_26 gL_27 gst_28 hp) gX5_readPerson_X5_readEnd rfl (by decide +kernel) ⟨Nat.le_trans (Nat.le_of_ble_eq_true rfl) hRf, Nat.le_trans (Nat.le_of_ble_eq_true rfl) hRl⟩ hKK hSS hS hA hP hD [0, 1] (by decide) rfl rfl rfl 0 rfl rfl hl.1 rfl (Nat.le_of_ble_eq_true rfl) dX5_readPerson_40) hP hD hS hA [0, 1] [2, 3, 4, 5, 6, 7, 8] [7, 8, 0, 1, 2, 3, 4, 5, 6] rfl rfl (by decide) (by decide) (by decide) (fun _ => rfl) (fun  u H locs hw hP hD hS => ?_)
    obtain ⟨xa2_30, xt2_31, xg2_32, xf2_33⟩ := u
    have hP : va_P G.1 vwCl [(e0, .inr (5, [.ref e01, .int xl, .int xf2_33, .int xg2_32, .int xa2_30, .int xt2_31, .int xr, .int xn])), aB G e01 400 xb, (t, .inr (6, [.int ns, .int np, .int fu, .int fd, .int fi, .ref t1, .ref t2, .ref t3, .ref t4, .ref t5, .ref t6])), aI G t1 9 sz_, aI G t2 9 pt, aI G t3 9 fh, aI G t4 8 kd, aI G t5 8 nd, aI G t6 8 fw] H := hP
    have hD : va_D A [(e0, .inr (5, [.ref e01, .int xl, .int xf2_33, .int xg2_32, .int xa2_30, .int xt2_31, .int xr, .int xn])), aB G e01 400 xb, (t, .inr (6, [.int ns, .int np, .int fu, .int fd, .int fi, .ref t1, .ref t2, .ref t3, .ref t4, .ref t5, .ref t6])), aI G t1 9 sz_, aI G t2 9 pt, aI G t3 9 fh, aI G t4 8 kd, aI G t5 8 nd, aI G t6 8 fw] := hD
    have hv := hv xa2_30 xt2_31 xg2_32 xf2_33 hw
    refine lv_aload_n hx hb dX5_readPerson_43 rfl (lv_at hl 3 rfl) ?_
    refine va_get (D := G.1) (ci := 5) (v := .int xg2_32) (C := RX5) (T := TX5) (N := 8) hx hb hts hinX5 hown hKK.1 hP 0 rfl rfl 3 (by decide) kl25 (fun _ h9 => h9) rfl dX5_readPerson_44 ?_
    refine lv_if_ne (tgt := 58) hx hb dX5_readPerson_47 (by decide) (fun hc_34 => ?_) (fun hc_34 => ?_)
    · have hv := hv.1 hc_34
      exact x_vret (xa2_30, xt2_31, xg2_32, xf2_33, np, kd, nd, fw) hQ hx hb hr hlocks hS dX5_readPerson_58 hv hP hD
    · have hv := hv.2 hc_34
      refine lv_aload_n hx hb dX5_readPerson_50 rfl (lv_at hl 4 rfl) ?_
      refine lv_iload_n hx hb dX5_readPerson_51 rfl (lv_at hl 2 rfl) ?_
      refine lv_iload_n hx hb dX5_readPerson_52 rfl (lv_at hl 1 rfl) ?_
      refine lv_iload hx hb dX5_readPerson_53 (lv_at hl 0 rfl) ?_
      obtain ⟨hp, hv⟩ := hv
      refine x_callv (wr := [(e0, .inr (5, [.ref e01, .int xl, .int xf2_33, .int xg2_32, .int xa2_30, .int xt2_31, .int xr, .int xn])), aB G e01 400 xb]) (w' := fun (u : (Int32) × (Nat → Int32) × (Nat → Int32) × (Nat → Int32)) => [(e0, .inr (5, [.ref e01, .int xl, .int xf2_33, .int xg2_32, .int xa2_30, .int xt2_31, .int xr, .int xn])), aB G e01 400 xb, (t, .inr (6, [.int ns, .int u.1, .int fu, .int fd, .int fi, .ref t1, .ref t2, .ref t3, .ref t4, .ref t5, .ref t6])), aI G t1 9 sz_, aI G t2 9 pt, aI G t3 9 fh, aI G t4 8 u.2.1, aI G t5 8 u.2.2.1, aI G t6 8 u.2.2.2]) (x_runV (As := [.int r_5, .int r_13, .int r_21]) (rest := []) (n := 3) (C := RX6) (ci := 6) ⟨hx, hb, hml, hown, hts⟩ (k_X6_addPerson l G t t1 t2 t3 t4 t5 t6 _ ns np fu fd fi sz_ pt fh kd nd fw r_5 r_13 r_21 hp) gX5_readPerson_X6_addPerson rfl (by decide +kernel) ⟨Nat.le_trans (Nat.le_of_ble_eq_true rfl) hRf, Nat.le_trans (Nat.le_of_ble_eq_true rfl) hRl⟩ hKK hSS hS hA hP hD [2, 3, 4, 5, 6, 7, 8] (by decide) rfl rfl rfl 2 rfl rfl hl.1 rfl (Nat.le_of_ble_eq_true rfl) dX5_readPerson_55) hP hD hS hA [2, 3, 4, 5, 6, 7, 8] [0, 1] [0, 1, 2, 3, 4, 5, 6, 7, 8] rfl rfl (by decide) (by decide) (by decide) (fun _ => rfl) (fun  u H locs hw hP hD hS => ?_)
      obtain ⟨np2_36, kd2_37, nd2_38, fw2_39⟩ := u
      obtain ⟨hw0, hw1, hw2, hw3⟩ := hw
      replace hw0 := hw0.symm; subst hw0
      replace hw1 := hw1.symm; subst hw1
      replace hw2 := hw2.symm; subst hw2
      replace hw3 := hw3.symm; subst hw3
      have hP : va_P G.1 vwCl [(e0, .inr (5, [.ref e01, .int xl, .int xf2_33, .int xg2_32, .int xa2_30, .int xt2_31, .int xr, .int xn])), aB G e01 400 xb, (t, .inr (6, [.int ns, .int (np + 1), .int fu, .int fd, .int fi, .ref t1, .ref t2, .ref t3, .ref t4, .ref t5, .ref t6])), aI G t1 9 sz_, aI G t2 9 pt, aI G t3 9 fh, aI G t4 8 (upd kd np.toNatClampNeg r_5), aI G t5 8 (upd nd np.toNatClampNeg r_21), aI G t6 8 (upd fw np.toNatClampNeg r_13)] H := hP
      have hD : va_D A [(e0, .inr (5, [.ref e01, .int xl, .int xf2_33, .int xg2_32, .int xa2_30, .int xt2_31, .int xr, .int xn])), aB G e01 400 xb, (t, .inr (6, [.int ns, .int (np + 1), .int fu, .int fd, .int fi, .ref t1, .ref t2, .ref t3, .ref t4, .ref t5, .ref t6])), aI G t1 9 sz_, aI G t2 9 pt, aI G t3 9 fh, aI G t4 8 (upd kd np.toNatClampNeg r_5), aI G t5 8 (upd nd np.toNatClampNeg r_21), aI G t6 8 (upd fw np.toNatClampNeg r_13)] := hD
      exact x_vret (xa2_30, xt2_31, xg2_32, xf2_33, (np + 1), (upd kd np.toNatClampNeg r_5), (upd nd np.toNatClampNeg r_21), (upd fw np.toNatClampNeg r_13)) hQ hx hb hr hlocks hS dX5_readPerson_58 hv hP hD
  · have hv := hv.2 hc_1
    refine lv_aload_n hx hb dX5_readPerson_9 rfl (lv_at hl 0 rfl) ?_
    refine lv_iconst (v := 3) hx hb dX5_readPerson_10 (by decide) ?_
    refine x_callv (wr := [(t, .inr (6, [.int ns, .int np, .int fu, .int fd, .int fi, .ref t1, .ref t2, .ref t3, .ref t4, .ref t5, .ref t6])), aI G t1 9 sz_, aI G t2 9 pt, aI G t3 9 fh, aI G t4 8 kd, aI G t5 8 nd, aI G t6 8 fw]) (w' := fun (u : (Int32) × (Int32)) => [(e0, .inr (5, [.ref e01, .int xl, .int u.2, .int u.1, .int xa, .int xt, .int xr, .int xn])), aB G e01 400 xb, (t, .inr (6, [.int ns, .int np, .int fu, .int fd, .int fi, .ref t1, .ref t2, .ref t3, .ref t4, .ref t5, .ref t6])), aI G t1 9 sz_, aI G t2 9 pt, aI G t3 9 fh, aI G t4 8 kd, aI G t5 8 nd, aI G t6 8 fw]) (x_runV (As := [.int 3]) (rest := []) (n := 1) (C := RX5) (ci := 5) ⟨hx, hb, hml, hown, hts⟩ (k_X5_fail l G e0 e01 _ xb xl xf xg xa xt xr xn 3) gX5_readPerson_X5_fail rfl (by decide +kernel) ⟨Nat.le_trans (Nat.le_of_ble_eq_true rfl) hRf, Nat.le_trans (Nat.le_of_ble_eq_true rfl) hRl⟩ hKK hSS hS hA hP hD [0, 1] (by decide) rfl rfl rfl 0 rfl rfl hl.1 rfl (Nat.le_of_ble_eq_true rfl) dX5_readPerson_11) hP hD hS hA [0, 1] [2, 3, 4, 5, 6, 7, 8] [7, 8, 0, 1, 2, 3, 4, 5, 6] rfl rfl (by decide) (by decide) (by decide) (fun _ => rfl) (fun  u H locs hw hP hD hS => ?_)
    obtain ⟨xg2_41, xf2_42⟩ := u
    obtain ⟨hw0, hw1⟩ := hw
    replace hw0 := hw0.symm; subst hw0
    replace hw1 := hw1.symm; subst hw1
    have hP : va_P G.1 vwCl [(e0, .inr (5, [.ref e01, .int xl, .int (if xg = 0 then xt else xf), .int (if xg = 0 then 3 else xg), .int xa, .int xt, .int xr, .int xn])), aB G e01 400 xb, (t, .inr (6, [.int ns, .int np, .int fu, .int fd, .int fi, .ref t1, .ref t2, .ref t3, .ref t4, .ref t5, .ref t6])), aI G t1 9 sz_, aI G t2 9 pt, aI G t3 9 fh, aI G t4 8 kd, aI G t5 8 nd, aI G t6 8 fw] H := hP
    have hD : va_D A [(e0, .inr (5, [.ref e01, .int xl, .int (if xg = 0 then xt else xf), .int (if xg = 0 then 3 else xg), .int xa, .int xt, .int xr, .int xn])), aB G e01 400 xb, (t, .inr (6, [.int ns, .int np, .int fu, .int fd, .int fi, .ref t1, .ref t2, .ref t3, .ref t4, .ref t5, .ref t6])), aI G t1 9 sz_, aI G t2 9 pt, aI G t3 9 fh, aI G t4 8 kd, aI G t5 8 nd, aI G t6 8 fw] := hD
    exact x_vret (xa, xt, (if xg = 0 then 3 else xg), (if xg = 0 then xt else xf), np, kd, nd, fw) hQ hx hb hr hlocks hS dX5_readPerson_14 hv hP hD
theorem v_X5_readPerson (l : Launch) (G : Gt) (e0 e01 t t1 t2 t3 t4 t5 t6 : Nat) (sz : Nat) (xb : Nat → Int32) (xl : Int32) (xf : Int32) (xg : Int32) (xa : Int32) (xt : Int32) (xr : Int32) (xn : Int32) (ns : Int32) (np : Int32) (fu : Int32) (fd : Int32) (fi : Int32) (sz_ : Nat → Int32) (pt : Nat → Int32) (fh : Nat → Int32) (kd : Nat → Int32) (nd : Nat → Int32) (fw : Nat → Int32) (B : Nat → Int) (L : Nat) (aq : Nat) (wq : Nat) (tq : PTn) (hp : CX B L xb xl ∧ CSo L aq xg xf xa ∧ xt = nI wq ∧ CW tq ns np fu fd fi sz_ pt fh kd nd fw ∧ xr = flg tq.2.2.2.1 ∧ xn = flg tq.2.2.2.2 ∧ tq.1 ≤ 9 ∧ tq.2.1 ≤ 8) : (np < 8 → ∃ (gB_2 : Nat → Int) (gL_3 : Nat) (gaq_4 : Nat), ((CX gB_2 gL_3 xb xl ∧ CSo gL_3 gaq_4 xg xf xa) ∧ (∀ (r_5 : Int32) (xa2_6 : Int32) (xt2_7 : Int32) (xg2_8 : Int32) (xf2_9 : Int32), (CSk gL_3 (kiR gB_2 gL_3 gaq_4) r_5 xg2_8 xf2_9 xa2_6) → (∃ (gB_10 : Nat → Int) (gL_11 : Nat) (gst_12 : Flt ⊕ Nat), ((CX gB_10 gL_11 xb xl ∧ CSs gL_11 gst_12 xg2_8 xf2_9 xa2_6) ∧ (∀ (r_13 : Int32) (xa2_14 : Int32) (xt2_15 : Int32) (xg2_16 : Int32) (xf2_17 : Int32), (CSn gL_11 (bnd gst_12 (nuR gB_10 gL_11 (0 : Int32).toInt (9999 : Int32).toInt)) r_13 xg2_16 xf2_17 xa2_14 xt2_15) → (∃ (gB_18 : Nat → Int) (gL_19 : Nat) (gst_20 : Flt ⊕ Nat), ((CX gB_18 gL_19 xb xl ∧ CSs gL_19 gst_20 xg2_16 xf2_17 xa2_14) ∧ (∀ (r_21 : Int32) (xa2_22 : Int32) (xt2_23 : Int32) (xg2_24 : Int32) (xf2_25 : Int32), (CSn gL_19 (bnd gst_20 (nuR gB_18 gL_19 (0 : Int32).toInt (9999 : Int32).toInt)) r_21 xg2_24 xf2_25 xa2_22 xt2_23) → (∃ (gB_26 : Nat → Int) (gL_27 : Nat) (gst_28 : Flt ⊕ Nat), ((CX gB_26 gL_27 xb xl ∧ CSs gL_27 gst_28 xg2_24 xf2_25 xa2_22) ∧ (∀ (xa2_30 : Int32) (xt2_31 : Int32) (xg2_32 : Int32) (xf2_33 : Int32), (CSs gL_27 (bnd gst_28 (smR gB_26 gL_27)) xg2_32 xf2_33 xa2_30) → ((¬ xg2_32 = 0 → CP L (smc B L (peC B L wq aq tq)) xg2_32 xf2_33 xa2_30 xr xn ns np fu fd fi sz_ pt fh kd nd fw) ∧ (xg2_32 = 0 → (vp_in np 8 ∧ np < 8) ∧ (CP L (smc B L (peC B L wq aq tq)) xg2_32 xf2_33 xa2_30 xr xn ns (np + 1) fu fd fi sz_ pt fh (upd kd np.toNatClampNeg r_5) (upd nd np.toNatClampNeg r_21) (upd fw np.toNatClampNeg r_13)))))))))))))))) ∧ (¬ (np < 8) → CP L (smc B L (peC B L wq aq tq)) (if xg = 0 then 3 else xg) (if xg = 0 then xt else xf) xa xr xn ns np fu fd fi sz_ pt fh kd nd fw) := by
  obtain ⟨hX, ⟨ha, rfl, rfl, rfl⟩, rfl, hW, rfl, rfl, h9, h8⟩ := hp
  obtain ⟨n0, p0, T, ff, fn⟩ := tq
  have hL := hX.1
  dsimp only at h9 h8 ⊢
  have hns : ns = nI n0 := hW.1.1
  have hnp : np = nI p0 := hW.1.2.1
  have hlt9 : np < 8 ↔ p0 < 8 := by rw [hnp]; exact nI_ltI (b := 8) (by omega) (by omega)
  have cn : np.toNatClampNeg = p0 := by rw [hnp]; exact nI_clamp (by omega)
  rw [hlt9, cn]
  simp only [if_true]
  refine ⟨fun hlt => ?_, fun hlt => ?_⟩
  · have vn : vp_in np 8 := by rw [hnp]; exact vp_in_nI (by omega) (by omega)
    refine ⟨B, L, aq, ⟨hX, ha, rfl, rfl, rfl⟩, fun r1 a1 t1 g1 f1 h1 => ?_⟩
    cases q1 : kiR B L aq with
    | inl x =>
      rw [q1] at h1
      have e : smc B L (peC B L wq aq (n0, p0, T, ff, fn)) = .inl x := by unfold peC; rw [peN_1 hlt q1]; rfl
      exact ⟨B, L, .inl x, ⟨hX, h1⟩, fun r2 a2 t2 g2 f2 h2 => ⟨B, L, .inl x, ⟨hX, h2⟩, fun r3 a3 t3 g3 f3 h3 => ⟨B, L, .inl x, ⟨hX, h3⟩, fun a4 t4 g4 f4 h4 => ⟨fun _ => by rw [e]; exact h4, fun z => absurd z (CSf.ne h4)⟩⟩⟩⟩
    | inr o1 =>
      obtain ⟨b1, v1⟩ := o1
      rw [q1] at h1
      obtain ⟨k1, w1⟩ := h1
      refine ⟨B, L, .inr b1, ⟨hX, k1⟩, fun r2 a2 t2 g2 f2 h2 => ?_⟩
      have h2 : CSn L (nuR B L 0 9999 b1) r2 g2 f2 a2 t2 := h2
      cases q2 : nuR B L 0 9999 b1 with
      | inl x =>
        rw [q2] at h2
        have e : smc B L (peC B L wq aq (n0, p0, T, ff, fn)) = .inl x := by unfold peC; rw [peN_2 hlt q1 q2]; rfl
        exact ⟨B, L, .inl x, ⟨hX, h2⟩, fun r3 a3 t3 g3 f3 h3 => ⟨B, L, .inl x, ⟨hX, h3⟩, fun a4 t4 g4 f4 h4 => ⟨fun _ => by rw [e]; exact h4, fun z => absurd z (CSf.ne h4)⟩⟩⟩
      | inr o2 =>
        obtain ⟨b2, u2, v2⟩ := o2
        rw [q2] at h2
        obtain ⟨k2, rfl, w2⟩ := h2
        refine ⟨B, L, .inr b2, ⟨hX, k2⟩, fun r3 a3 t3 g3 f3 h3 => ?_⟩
        have h3 : CSn L (nuR B L 0 9999 b2) r3 g3 f3 a3 t3 := h3
        cases q3 : nuR B L 0 9999 b2 with
        | inl x =>
          rw [q3] at h3
          have e : smc B L (peC B L wq aq (n0, p0, T, ff, fn)) = .inl x := by unfold peC; rw [peN_3 hlt q1 q2 q3]; rfl
          exact ⟨B, L, .inl x, ⟨hX, h3⟩, fun a4 t4 g4 f4 h4 => ⟨fun _ => by rw [e]; exact h4, fun z => absurd z (CSf.ne h4)⟩⟩
        | inr o3 =>
          obtain ⟨b3, u3, v3⟩ := o3
          rw [q3] at h3
          obtain ⟨k3, rfl, w3⟩ := h3
          have e5 : peN B L p0 wq aq = .inr (b3, v1, v2, v3) := peN_5 hlt q1 q2 q3
          refine ⟨B, L, .inr b3, ⟨hX, k3⟩, fun a4 t4 g4 f4 h4 => ?_⟩
          have h4 : CSs L (smR B L b3) g4 f4 a4 := h4
          cases q4 : smR B L b3 with
          | inl x =>
            rw [q4] at h4
            have e : smc B L (peC B L wq aq (n0, p0, T, ff, fn)) = .inl x := by unfold peC; rw [e5]; exact smc_f q4
            exact ⟨fun _ => by rw [e]; exact h4, fun z => absurd z (CSf.ne h4)⟩
          | inr b4 =>
            rw [q4] at h4
            have e : smc B L (peC B L wq aq (n0, p0, T, ff, fn)) = .inr (b4, n0, p0 + 1, uT (uT (uT T 2 p0 v1) 6 p0 v2) 3 p0 v3, ff, fn) := by unfold peC; rw [e5]; exact smc_o q4
            rw [e]
            exact ⟨fun z => absurd h4.2.1 z, fun _ => ⟨⟨vn, hlt⟩, h4, CW_person hW w1 w2 w3, rfl, rfl⟩⟩
  · have e : smc B L (peC B L wq aq (n0, p0, T, ff, fn)) = .inl (3, wq) := by unfold peC; rw [peN_9 (show 8 ≤ p0 by omega)]; rfl
    rw [e]
    exact CSf.mk (f := 3) (by decide) (by decide) ha
theorem k_X5_readPerson (l : Launch) (G : Gt) (e0 e01 t t1 t2 t3 t4 t5 t6 : Nat) (sz : Nat) (xb : Nat → Int32) (xl : Int32) (xf : Int32) (xg : Int32) (xa : Int32) (xt : Int32) (xr : Int32) (xn : Int32) (ns : Int32) (np : Int32) (fu : Int32) (fd : Int32) (fi : Int32) (sz_ : Nat → Int32) (pt : Nat → Int32) (fh : Nat → Int32) (kd : Nat → Int32) (nd : Nat → Int32) (fw : Nat → Int32) (B : Nat → Int) (L : Nat) (aq : Nat) (wq : Nat) (tq : PTn) (hp : CX B L xb xl ∧ CSo L aq xg xf xa ∧ xt = nI wq ∧ CW tq ns np fu fd fi sz_ pt fh kd nd fw ∧ xr = flg tq.2.2.2.1 ∧ xn = flg tq.2.2.2.2 ∧ tq.1 ≤ 9 ∧ tq.2.1 ≤ 8) : MetV l yX5_readPerson wsX5_readPerson 6 127 G [.ref e0, .ref t] [(e0, .inr (5, [.ref e01, .int xl, .int xf, .int xg, .int xa, .int xt, .int xr, .int xn])), aB G e01 400 xb, (t, .inr (6, [.int ns, .int np, .int fu, .int fd, .int fi, .ref t1, .ref t2, .ref t3, .ref t4, .ref t5, .ref t6])), aI G t1 9 sz_, aI G t2 9 pt, aI G t3 9 fh, aI G t4 8 kd, aI G t5 8 nd, aI G t6 8 fw] sz (fun (u : (Int32) × (Int32) × (Int32) × (Int32) × (Int32) × (Nat → Int32) × (Nat → Int32) × (Nat → Int32)) => CP L (smc B L (peC B L wq aq tq)) u.2.2.1 u.2.2.2.1 u.1 xr xn ns u.2.2.2.2.1 fu fd fi sz_ pt fh u.2.2.2.2.2.1 u.2.2.2.2.2.2.1 u.2.2.2.2.2.2.2) (fun (u : (Int32) × (Int32) × (Int32) × (Int32) × (Int32) × (Nat → Int32) × (Nat → Int32) × (Nat → Int32)) => [(e0, .inr (5, [.ref e01, .int xl, .int u.2.2.2.1, .int u.2.2.1, .int u.1, .int u.2.1, .int xr, .int xn])), aB G e01 400 xb, (t, .inr (6, [.int ns, .int u.2.2.2.2.1, .int fu, .int fd, .int fi, .ref t1, .ref t2, .ref t3, .ref t4, .ref t5, .ref t6])), aI G t1 9 sz_, aI G t2 9 pt, aI G t3 9 fh, aI G t4 8 u.2.2.2.2.2.1, aI G t5 8 u.2.2.2.2.2.2.1, aI G t6 8 u.2.2.2.2.2.2.2]) :=
  c_X5_readPerson l G e0 e01 t t1 t2 t3 t4 t5 t6 sz xb xl xf xg xa xt xr xn ns np fu fd fi sz_ pt fh kd nd fw B L aq wq tq (v_X5_readPerson l G e0 e01 t t1 t2 t3 t4 t5 t6 sz xb xl xf xg xa xt xr xn ns np fu fd fi sz_ pt fh kd nd fw B L aq wq tq hp)

set_option maxHeartbeats 4000000 in
set_option maxRecDepth 100000 in
theorem c_X5_readFrost (l : Launch) (G : Gt) (e0 e01 t t1 t2 t3 t4 t5 t6 : Nat) (sz : Nat) (xb : Nat → Int32) (xl : Int32) (xf : Int32) (xg : Int32) (xa : Int32) (xt : Int32) (xr : Int32) (xn : Int32) (ns : Int32) (np : Int32) (fu : Int32) (fd : Int32) (fi : Int32) (sz_ : Nat → Int32) (pt : Nat → Int32) (fh : Nat → Int32) (kd : Nat → Int32) (nd : Nat → Int32) (fw : Nat → Int32) (B : Nat → Int) (L : Nat) (aq : Nat) (wq : Nat) (tq : PTn) (hv : (xr = 0 → ∃ (gB_2 : Nat → Int) (gL_3 : Nat) (gst_4 : Flt ⊕ Nat), ((CX gB_2 gL_3 xb xl ∧ CSs gL_3 gst_4 xg xf xa) ∧ (∀ (r_5 : Int32) (xa2_6 : Int32) (xt2_7 : Int32) (xg2_8 : Int32) (xf2_9 : Int32), (CSn gL_3 (bnd gst_4 (nuR gB_2 gL_3 (0 : Int32).toInt (99 : Int32).toInt)) r_5 xg2_8 xf2_9 xa2_6 xt2_7) → (∃ (gB_10 : Nat → Int) (gL_11 : Nat) (gst_12 : Flt ⊕ Nat), ((CX gB_10 gL_11 xb xl ∧ CSs gL_11 gst_12 xg2_8 xf2_9 xa2_6) ∧ (∀ (r_13 : Int32) (xa2_14 : Int32) (xt2_15 : Int32) (xg2_16 : Int32) (xf2_17 : Int32), (CSn gL_11 (bnd gst_12 (nuR gB_10 gL_11 (0 : Int32).toInt (99 : Int32).toInt)) r_13 xg2_16 xf2_17 xa2_14 xt2_15) → (∃ (gB_18 : Nat → Int) (gL_19 : Nat) (gst_20 : Flt ⊕ Nat), ((CX gB_18 gL_19 xb xl ∧ CSs gL_19 gst_20 xg2_16 xf2_17 xa2_14) ∧ (∀ (xa2_22 : Int32) (xt2_23 : Int32) (xg2_24 : Int32) (xf2_25 : Int32), (CSs gL_19 (bnd gst_20 (smR gB_18 gL_19)) xg2_24 xf2_25 xa2_22) → (CP L (smc B L (frC B L wq aq tq)) xg2_24 xf2_25 xa2_22 (1 : Int32) xn ns np r_5 r_13 fi sz_ pt fh kd nd fw)))))))))) ∧ (¬ (xr = 0) → CP L (smc B L (frC B L wq aq tq)) (if xg = 0 then 3 else xg) (if xg = 0 then xt else xf) xa xr xn ns np fu fd fi sz_ pt fh kd nd fw)) : MetV l yX5_readFrost wsX5_readFrost 2 45 G [.ref e0, .ref t] [(e0, .inr (5, [.ref e01, .int xl, .int xf, .int xg, .int xa, .int xt, .int xr, .int xn])), aB G e01 400 xb, (t, .inr (6, [.int ns, .int np, .int fu, .int fd, .int fi, .ref t1, .ref t2, .ref t3, .ref t4, .ref t5, .ref t6])), aI G t1 9 sz_, aI G t2 9 pt, aI G t3 9 fh, aI G t4 8 kd, aI G t5 8 nd, aI G t6 8 fw] sz (fun (u : (Int32) × (Int32) × (Int32) × (Int32) × (Int32) × (Int32) × (Int32)) => CP L (smc B L (frC B L wq aq tq)) u.2.2.1 u.2.2.2.1 u.1 u.2.2.2.2.1 xn ns np u.2.2.2.2.2.1 u.2.2.2.2.2.2 fi sz_ pt fh kd nd fw) (fun (u : (Int32) × (Int32) × (Int32) × (Int32) × (Int32) × (Int32) × (Int32)) => [(e0, .inr (5, [.ref e01, .int xl, .int u.2.2.2.1, .int u.2.2.1, .int u.1, .int u.2.1, .int u.2.2.2.2.1, .int xn])), aB G e01 400 xb, (t, .inr (6, [.int ns, .int np, .int u.2.2.2.2.2.1, .int u.2.2.2.2.2.2, .int fi, .ref t1, .ref t2, .ref t3, .ref t4, .ref t5, .ref t6])), aI G t1 9 sz_, aI G t2 9 pt, aI G t3 9 fh, aI G t4 8 kd, aI G t5 8 nd, aI G t6 8 fw]) := by
  refine x_startV (cc := cX5_readFrost) (maxL := 2) (ret := none) (by decide) rfl (Nat.le_of_ble_eq_true rfl) ?_
  intro p e s m args below meth c A R Q ls hRf hRl hQ C hP hD hS hA hSS hl
  obtain ⟨hx, hb, hr, hml, hown, hts, hlocks, hKK⟩ := C
  have hown : s.vm.findClass RX5 = some m.cls := hown
  have hl : lv_has ls 2 [(0, .ref e0), (1, .ref t)] := hl
  have hinX5 : ∀ w ∈ u_ws RX5 TX5 8, w ∈ wsX5_readFrost := by decide +kernel
  have hinX6 : ∀ w ∈ u_ws RX6 TX6 11, w ∈ wsX5_readFrost := by decide +kernel
  have kl106 := hts (.fieldLink RX5 106 "WarmStones$Town" "frostStanding" "I") (by decide +kernel)
  have kl109 := hts (.fieldLink RX5 109 "WarmStones$Town" "frostSitting" "I") (by decide +kernel)
  have kl28 := hts (.fieldLink RX5 28 "WarmStones$Text" "frostTold" "Z") (by decide +kernel)
  refine lv_aload_n hx hb dX5_readFrost_0 rfl (lv_at hl 0 rfl) ?_
  refine va_get (D := G.1) (ci := 5) (v := .int xr) (C := RX5) (T := TX5) (N := 8) hx hb hts hinX5 hown hKK.1 hP 0 rfl rfl 6 (by decide) kl28 (fun _ h9 => h9) rfl dX5_readFrost_1 ?_
  refine lv_if_eq (tgt := 13) hx hb dX5_readFrost_4 (by decide) (fun hc_1 => ?_) (fun hc_1 => ?_)
  · have hv := hv.1 hc_1
    refine lv_aload_n hx hb dX5_readFrost_13 rfl (lv_at hl 0 rfl) ?_
    refine lv_iconst (v := 1) hx hb dX5_readFrost_14 (by decide) ?_
    refine va_put (D := G.1) (ci := 5) (v := .int 1) (ty := .boolean) (C := RX5) (T := TX5) (N := 8) hx hb hts hinX5 tyX5 tyX5_ok nmX5 hown hKK.1 hP hD hS 0 rfl rfl 6 (by decide) kl28 (fun _ h9 => h9) rfl (by decide +kernel) rfl rfl (Nat.le_of_ble_eq_true rfl) dX5_readFrost_15 (fun H locs hP hD hS => ?_)
    have hP : va_P G.1 vwCl [(e0, .inr (5, [.ref e01, .int xl, .int xf, .int xg, .int xa, .int xt, .int 1, .int xn])), aB G e01 400 xb, (t, .inr (6, [.int ns, .int np, .int fu, .int fd, .int fi, .ref t1, .ref t2, .ref t3, .ref t4, .ref t5, .ref t6])), aI G t1 9 sz_, aI G t2 9 pt, aI G t3 9 fh, aI G t4 8 kd, aI G t5 8 nd, aI G t6 8 fw] H := hP
    have hD : va_D A [(e0, .inr (5, [.ref e01, .int xl, .int xf, .int xg, .int xa, .int xt, .int 1, .int xn])), aB G e01 400 xb, (t, .inr (6, [.int ns, .int np, .int fu, .int fd, .int fi, .ref t1, .ref t2, .ref t3, .ref t4, .ref t5, .ref t6])), aI G t1 9 sz_, aI G t2 9 pt, aI G t3 9 fh, aI G t4 8 kd, aI G t5 8 nd, aI G t6 8 fw] := hD
    refine lv_aload_n hx hb dX5_readFrost_18 rfl (lv_at hl 1 rfl) ?_
    refine lv_aload_n hx hb dX5_readFrost_19 rfl (lv_at hl 0 rfl) ?_
    refine lv_iconst (v := 0) hx hb dX5_readFrost_20 (by decide) ?_
    refine lv_bipush (v := 99) hx hb dX5_readFrost_21 (by decide) ?_
    obtain ⟨gB_2, gL_3, gst_4, hv⟩ := hv
    obtain ⟨hp, hv⟩ := hv
    refine x_calli (wr := [(t, .inr (6, [.int ns, .int np, .int fu, .int fd, .int fi, .ref t1, .ref t2, .ref t3, .ref t4, .ref t5, .ref t6])), aI G t1 9 sz_, aI G t2 9 pt, aI G t3 9 fh, aI G t4 8 kd, aI G t5 8 nd, aI G t6 8 fw]) (w' := fun (u : (Int32) × (Int32) × (Int32) × (Int32)) => [(e0, .inr (5, [.ref e01, .int xl, .int u.2.2.2, .int u.2.2.1, .int u.1, .int u.2.1, .int 1, .int xn])), aB G e01 400 xb, (t, .inr (6, [.int ns, .int np, .int fu, .int fd, .int fi, .ref t1, .ref t2, .ref t3, .ref t4, .ref t5, .ref t6])), aI G t1 9 sz_, aI G t2 9 pt, aI G t3 9 fh, aI G t4 8 kd, aI G t5 8 nd, aI G t6 8 fw]) (x_runV (As := [.int 0, .int 99]) (rest := [.ref t]) (n := 2) (C := RX5) (ci := 5) ⟨hx, hb, hml, hown, hts⟩ (k_X5_readNumber l G e0 e01 _ xb xl xf xg xa xt 1 xn 0 99 gB_2 gL_3 gst_4 hp) gX5_readFrost_X5_readNumber rfl (by decide +kernel) ⟨Nat.le_trans (Nat.le_of_ble_eq_true rfl) hRf, Nat.le_trans (Nat.le_of_ble_eq_true rfl) hRl⟩ hKK hSS hS hA hP hD [0, 1] (by decide) rfl rfl rfl 0 rfl rfl hl.1 rfl (Nat.le_of_ble_eq_true rfl) dX5_readFrost_23) hP hD hS hA [0, 1] [2, 3, 4, 5, 6, 7, 8] [7, 8, 0, 1, 2, 3, 4, 5, 6] rfl rfl (by decide) (by decide) (by decide) (fun _ => rfl) (fun r_5 u H locs hw hP hD hS => ?_)
    obtain ⟨xa2_6, xt2_7, xg2_8, xf2_9⟩ := u
    have hP : va_P G.1 vwCl [(e0, .inr (5, [.ref e01, .int xl, .int xf2_9, .int xg2_8, .int xa2_6, .int xt2_7, .int 1, .int xn])), aB G e01 400 xb, (t, .inr (6, [.int ns, .int np, .int fu, .int fd, .int fi, .ref t1, .ref t2, .ref t3, .ref t4, .ref t5, .ref t6])), aI G t1 9 sz_, aI G t2 9 pt, aI G t3 9 fh, aI G t4 8 kd, aI G t5 8 nd, aI G t6 8 fw] H := hP
    have hD : va_D A [(e0, .inr (5, [.ref e01, .int xl, .int xf2_9, .int xg2_8, .int xa2_6, .int xt2_7, .int 1, .int xn])), aB G e01 400 xb, (t, .inr (6, [.int ns, .int np, .int fu, .int fd, .int fi, .ref t1, .ref t2, .ref t3, .ref t4, .ref t5, .ref t6])), aI G t1 9 sz_, aI G t2 9 pt, aI G t3 9 fh, aI G t4 8 kd, aI G t5 8 nd, aI G t6 8 fw] := hD
    have hv := hv r_5 xa2_6 xt2_7 xg2_8 xf2_9 hw
    refine va_put (D := G.1) (ci := 6) (v := .int r_5) (ty := .int) (C := RX6) (T := TX6) (N := 11) hx hb hts hinX6 tyX6 tyX6_ok nmX6 hown hKK.1 hP hD hS 2 rfl rfl 2 (by decide) kl106 (fun _ h9 => h9) rfl (by decide +kernel) rfl rfl (Nat.le_of_ble_eq_true rfl) dX5_readFrost_26 (fun H locs hP hD hS => ?_)
    have hP : va_P G.1 vwCl [(e0, .inr (5, [.ref e01, .int xl, .int xf2_9, .int xg2_8, .int xa2_6, .int xt2_7, .int 1, .int xn])), aB G e01 400 xb, (t, .inr (6, [.int ns, .int np, .int r_5, .int fd, .int fi, .ref t1, .ref t2, .ref t3, .ref t4, .ref t5, .ref t6])), aI G t1 9 sz_, aI G t2 9 pt, aI G t3 9 fh, aI G t4 8 kd, aI G t5 8 nd, aI G t6 8 fw] H := hP
    have hD : va_D A [(e0, .inr (5, [.ref e01, .int xl, .int xf2_9, .int xg2_8, .int xa2_6, .int xt2_7, .int 1, .int xn])), aB G e01 400 xb, (t, .inr (6, [.int ns, .int np, .int r_5, .int fd, .int fi, .ref t1, .ref t2, .ref t3, .ref t4, .ref t5, .ref t6])), aI G t1 9 sz_, aI G t2 9 pt, aI G t3 9 fh, aI G t4 8 kd, aI G t5 8 nd, aI G t6 8 fw] := hD
    refine lv_aload_n hx hb dX5_readFrost_29 rfl (lv_at hl 1 rfl) ?_
    refine lv_aload_n hx hb dX5_readFrost_30 rfl (lv_at hl 0 rfl) ?_
    refine lv_iconst (v := 0) hx hb dX5_readFrost_31 (by decide) ?_
    refine lv_bipush (v := 99) hx hb dX5_readFrost_32 (by decide) ?_
    obtain ⟨gB_10, gL_11, gst_12, hv⟩ := hv
    obtain ⟨hp, hv⟩ := hv
    refine x_calli (wr := [(t, .inr (6, [.int ns, .int np, .int r_5, .int fd, .int fi, .ref t1, .ref t2, .ref t3, .ref t4, .ref t5, .ref t6])), aI G t1 9 sz_, aI G t2 9 pt, aI G t3 9 fh, aI G t4 8 kd, aI G t5 8 nd, aI G t6 8 fw]) (w' := fun (u : (Int32) × (Int32) × (Int32) × (Int32)) => [(e0, .inr (5, [.ref e01, .int xl, .int u.2.2.2, .int u.2.2.1, .int u.1, .int u.2.1, .int 1, .int xn])), aB G e01 400 xb, (t, .inr (6, [.int ns, .int np, .int r_5, .int fd, .int fi, .ref t1, .ref t2, .ref t3, .ref t4, .ref t5, .ref t6])), aI G t1 9 sz_, aI G t2 9 pt, aI G t3 9 fh, aI G t4 8 kd, aI G t5 8 nd, aI G t6 8 fw]) (x_runV (As := [.int 0, .int 99]) (rest := [.ref t]) (n := 2) (C := RX5) (ci := 5) ⟨hx, hb, hml, hown, hts⟩ (k_X5_readNumber l G e0 e01 _ xb xl xf2_9 xg2_8 xa2_6 xt2_7 1 xn 0 99 gB_10 gL_11 gst_12 hp) gX5_readFrost_X5_readNumber rfl (by decide +kernel) ⟨Nat.le_trans (Nat.le_of_ble_eq_true rfl) hRf, Nat.le_trans (Nat.le_of_ble_eq_true rfl) hRl⟩ hKK hSS hS hA hP hD [0, 1] (by decide) rfl rfl rfl 0 rfl rfl hl.1 rfl (Nat.le_of_ble_eq_true rfl) dX5_readFrost_34) hP hD hS hA [0, 1] [2, 3, 4, 5, 6, 7, 8] [7, 8, 0, 1, 2, 3, 4, 5, 6] rfl rfl (by decide) (by decide) (by decide) (fun _ => rfl) (fun r_13 u H locs hw hP hD hS => ?_)
    obtain ⟨xa2_14, xt2_15, xg2_16, xf2_17⟩ := u
    have hP : va_P G.1 vwCl [(e0, .inr (5, [.ref e01, .int xl, .int xf2_17, .int xg2_16, .int xa2_14, .int xt2_15, .int 1, .int xn])), aB G e01 400 xb, (t, .inr (6, [.int ns, .int np, .int r_5, .int fd, .int fi, .ref t1, .ref t2, .ref t3, .ref t4, .ref t5, .ref t6])), aI G t1 9 sz_, aI G t2 9 pt, aI G t3 9 fh, aI G t4 8 kd, aI G t5 8 nd, aI G t6 8 fw] H := hP
    have hD : va_D A [(e0, .inr (5, [.ref e01, .int xl, .int xf2_17, .int xg2_16, .int xa2_14, .int xt2_15, .int 1, .int xn])), aB G e01 400 xb, (t, .inr (6, [.int ns, .int np, .int r_5, .int fd, .int fi, .ref t1, .ref t2, .ref t3, .ref t4, .ref t5, .ref t6])), aI G t1 9 sz_, aI G t2 9 pt, aI G t3 9 fh, aI G t4 8 kd, aI G t5 8 nd, aI G t6 8 fw] := hD
    have hv := hv r_13 xa2_14 xt2_15 xg2_16 xf2_17 hw
    refine va_put (D := G.1) (ci := 6) (v := .int r_13) (ty := .int) (C := RX6) (T := TX6) (N := 11) hx hb hts hinX6 tyX6 tyX6_ok nmX6 hown hKK.1 hP hD hS 2 rfl rfl 3 (by decide) kl109 (fun _ h9 => h9) rfl (by decide +kernel) rfl rfl (Nat.le_of_ble_eq_true rfl) dX5_readFrost_37 (fun H locs hP hD hS => ?_)
    have hP : va_P G.1 vwCl [(e0, .inr (5, [.ref e01, .int xl, .int xf2_17, .int xg2_16, .int xa2_14, .int xt2_15, .int 1, .int xn])), aB G e01 400 xb, (t, .inr (6, [.int ns, .int np, .int r_5, .int r_13, .int fi, .ref t1, .ref t2, .ref t3, .ref t4, .ref t5, .ref t6])), aI G t1 9 sz_, aI G t2 9 pt, aI G t3 9 fh, aI G t4 8 kd, aI G t5 8 nd, aI G t6 8 fw] H := hP
    have hD : va_D A [(e0, .inr (5, [.ref e01, .int xl, .int xf2_17, .int xg2_16, .int xa2_14, .int xt2_15, .int 1, .int xn])), aB G e01 400 xb, (t, .inr (6, [.int ns, .int np, .int r_5, .int r_13, .int fi, .ref t1, .ref t2, .ref t3, .ref t4, .ref t5, .ref t6])), aI G t1 9 sz_, aI G t2 9 pt, aI G t3 9 fh, aI G t4 8 kd, aI G t5 8 nd, aI G t6 8 fw] := hD
    refine lv_aload_n hx hb dX5_readFrost_40 rfl (lv_at hl 0 rfl) ?_
    obtain ⟨gB_18, gL_19, gst_20, hv⟩ := hv
    obtain ⟨hp, hv⟩ := hv
    refine x_callv (wr := [(t, .inr (6, [.int ns, .int np, .int r_5, .int r_13, .int fi, .ref t1, .ref t2, .ref t3, .ref t4, .ref t5, .ref t6])), aI G t1 9 sz_, aI G t2 9 pt, aI G t3 9 fh, aI G t4 8 kd, aI G t5 8 nd, aI G t6 8 fw]) (w' := fun (u : (Int32) × (Int32) × (Int32) × (Int32)) => [(e0, .inr (5, [.ref e01, .int xl, .int u.2.2.2, .int u.2.2.1, .int u.1, .int u.2.1, .int 1, .int xn])), aB G e01 400 xb, (t, .inr (6, [.int ns, .int np, .int r_5, .int r_13, .int fi, .ref t1, .ref t2, .ref t3, .ref t4, .ref t5, .ref t6])), aI G t1 9 sz_, aI G t2 9 pt, aI G t3 9 fh, aI G t4 8 kd, aI G t5 8 nd, aI G t6 8 fw]) (x_runV (As := []) (rest := []) (n := 0) (C := RX5) (ci := 5) ⟨hx, hb, hml, hown, hts⟩ (k_X5_readEnd l G e0 e01 _ xb xl xf2_17 xg2_16 xa2_14 xt2_15 1 xn gB_18 gL_19 gst_20 hp) gX5_readFrost_X5_readEnd rfl (by decide +kernel) ⟨Nat.le_trans (Nat.le_of_ble_eq_true rfl) hRf, Nat.le_trans (Nat.le_of_ble_eq_true rfl) hRl⟩ hKK hSS hS hA hP hD [0, 1] (by decide) rfl rfl rfl 0 rfl rfl hl.1 rfl (Nat.le_of_ble_eq_true rfl) dX5_readFrost_41) hP hD hS hA [0, 1] [2, 3, 4, 5, 6, 7, 8] [7, 8, 0, 1, 2, 3, 4, 5, 6] rfl rfl (by decide) (by decide) (by decide) (fun _ => rfl) (fun  u H locs hw hP hD hS => ?_)
    obtain ⟨xa2_22, xt2_23, xg2_24, xf2_25⟩ := u
    have hP : va_P G.1 vwCl [(e0, .inr (5, [.ref e01, .int xl, .int xf2_25, .int xg2_24, .int xa2_22, .int xt2_23, .int 1, .int xn])), aB G e01 400 xb, (t, .inr (6, [.int ns, .int np, .int r_5, .int r_13, .int fi, .ref t1, .ref t2, .ref t3, .ref t4, .ref t5, .ref t6])), aI G t1 9 sz_, aI G t2 9 pt, aI G t3 9 fh, aI G t4 8 kd, aI G t5 8 nd, aI G t6 8 fw] H := hP
    have hD : va_D A [(e0, .inr (5, [.ref e01, .int xl, .int xf2_25, .int xg2_24, .int xa2_22, .int xt2_23, .int 1, .int xn])), aB G e01 400 xb, (t, .inr (6, [.int ns, .int np, .int r_5, .int r_13, .int fi, .ref t1, .ref t2, .ref t3, .ref t4, .ref t5, .ref t6])), aI G t1 9 sz_, aI G t2 9 pt, aI G t3 9 fh, aI G t4 8 kd, aI G t5 8 nd, aI G t6 8 fw] := hD
    have hv := hv xa2_22 xt2_23 xg2_24 xf2_25 hw
    exact x_vret (xa2_22, xt2_23, xg2_24, xf2_25, 1, r_5, r_13) hQ hx hb hr hlocks hS dX5_readFrost_44 hv hP hD
  · have hv := hv.2 hc_1
    refine lv_aload_n hx hb dX5_readFrost_7 rfl (lv_at hl 0 rfl) ?_
    refine lv_iconst (v := 3) hx hb dX5_readFrost_8 (by decide) ?_
    refine x_callv (wr := [(t, .inr (6, [.int ns, .int np, .int fu, .int fd, .int fi, .ref t1, .ref t2, .ref t3, .ref t4, .ref t5, .ref t6])), aI G t1 9 sz_, aI G t2 9 pt, aI G t3 9 fh, aI G t4 8 kd, aI G t5 8 nd, aI G t6 8 fw]) (w' := fun (u : (Int32) × (Int32)) => [(e0, .inr (5, [.ref e01, .int xl, .int u.2, .int u.1, .int xa, .int xt, .int xr, .int xn])), aB G e01 400 xb, (t, .inr (6, [.int ns, .int np, .int fu, .int fd, .int fi, .ref t1, .ref t2, .ref t3, .ref t4, .ref t5, .ref t6])), aI G t1 9 sz_, aI G t2 9 pt, aI G t3 9 fh, aI G t4 8 kd, aI G t5 8 nd, aI G t6 8 fw]) (x_runV (As := [.int 3]) (rest := []) (n := 1) (C := RX5) (ci := 5) ⟨hx, hb, hml, hown, hts⟩ (k_X5_fail l G e0 e01 _ xb xl xf xg xa xt xr xn 3) gX5_readFrost_X5_fail rfl (by decide +kernel) ⟨Nat.le_trans (Nat.le_of_ble_eq_true rfl) hRf, Nat.le_trans (Nat.le_of_ble_eq_true rfl) hRl⟩ hKK hSS hS hA hP hD [0, 1] (by decide) rfl rfl rfl 0 rfl rfl hl.1 rfl (Nat.le_of_ble_eq_true rfl) dX5_readFrost_9) hP hD hS hA [0, 1] [2, 3, 4, 5, 6, 7, 8] [7, 8, 0, 1, 2, 3, 4, 5, 6] rfl rfl (by decide) (by decide) (by decide) (fun _ => rfl) (fun  u H locs hw hP hD hS => ?_)
    obtain ⟨xg2_27, xf2_28⟩ := u
    obtain ⟨hw0, hw1⟩ := hw
    replace hw0 := hw0.symm; subst hw0
    replace hw1 := hw1.symm; subst hw1
    have hP : va_P G.1 vwCl [(e0, .inr (5, [.ref e01, .int xl, .int (if xg = 0 then xt else xf), .int (if xg = 0 then 3 else xg), .int xa, .int xt, .int xr, .int xn])), aB G e01 400 xb, (t, .inr (6, [.int ns, .int np, .int fu, .int fd, .int fi, .ref t1, .ref t2, .ref t3, .ref t4, .ref t5, .ref t6])), aI G t1 9 sz_, aI G t2 9 pt, aI G t3 9 fh, aI G t4 8 kd, aI G t5 8 nd, aI G t6 8 fw] H := hP
    have hD : va_D A [(e0, .inr (5, [.ref e01, .int xl, .int (if xg = 0 then xt else xf), .int (if xg = 0 then 3 else xg), .int xa, .int xt, .int xr, .int xn])), aB G e01 400 xb, (t, .inr (6, [.int ns, .int np, .int fu, .int fd, .int fi, .ref t1, .ref t2, .ref t3, .ref t4, .ref t5, .ref t6])), aI G t1 9 sz_, aI G t2 9 pt, aI G t3 9 fh, aI G t4 8 kd, aI G t5 8 nd, aI G t6 8 fw] := hD
    exact x_vret (xa, xt, (if xg = 0 then 3 else xg), (if xg = 0 then xt else xf), xr, fu, fd) hQ hx hb hr hlocks hS dX5_readFrost_12 hv hP hD
theorem v_X5_readFrost (l : Launch) (G : Gt) (e0 e01 t t1 t2 t3 t4 t5 t6 : Nat) (sz : Nat) (xb : Nat → Int32) (xl : Int32) (xf : Int32) (xg : Int32) (xa : Int32) (xt : Int32) (xr : Int32) (xn : Int32) (ns : Int32) (np : Int32) (fu : Int32) (fd : Int32) (fi : Int32) (sz_ : Nat → Int32) (pt : Nat → Int32) (fh : Nat → Int32) (kd : Nat → Int32) (nd : Nat → Int32) (fw : Nat → Int32) (B : Nat → Int) (L : Nat) (aq : Nat) (wq : Nat) (tq : PTn) (hp : CX B L xb xl ∧ CSo L aq xg xf xa ∧ xt = nI wq ∧ CW tq ns np fu fd fi sz_ pt fh kd nd fw ∧ xr = flg tq.2.2.2.1 ∧ xn = flg tq.2.2.2.2 ∧ tq.1 ≤ 9 ∧ tq.2.1 ≤ 8) : (xr = 0 → ∃ (gB_2 : Nat → Int) (gL_3 : Nat) (gst_4 : Flt ⊕ Nat), ((CX gB_2 gL_3 xb xl ∧ CSs gL_3 gst_4 xg xf xa) ∧ (∀ (r_5 : Int32) (xa2_6 : Int32) (xt2_7 : Int32) (xg2_8 : Int32) (xf2_9 : Int32), (CSn gL_3 (bnd gst_4 (nuR gB_2 gL_3 (0 : Int32).toInt (99 : Int32).toInt)) r_5 xg2_8 xf2_9 xa2_6 xt2_7) → (∃ (gB_10 : Nat → Int) (gL_11 : Nat) (gst_12 : Flt ⊕ Nat), ((CX gB_10 gL_11 xb xl ∧ CSs gL_11 gst_12 xg2_8 xf2_9 xa2_6) ∧ (∀ (r_13 : Int32) (xa2_14 : Int32) (xt2_15 : Int32) (xg2_16 : Int32) (xf2_17 : Int32), (CSn gL_11 (bnd gst_12 (nuR gB_10 gL_11 (0 : Int32).toInt (99 : Int32).toInt)) r_13 xg2_16 xf2_17 xa2_14 xt2_15) → (∃ (gB_18 : Nat → Int) (gL_19 : Nat) (gst_20 : Flt ⊕ Nat), ((CX gB_18 gL_19 xb xl ∧ CSs gL_19 gst_20 xg2_16 xf2_17 xa2_14) ∧ (∀ (xa2_22 : Int32) (xt2_23 : Int32) (xg2_24 : Int32) (xf2_25 : Int32), (CSs gL_19 (bnd gst_20 (smR gB_18 gL_19)) xg2_24 xf2_25 xa2_22) → (CP L (smc B L (frC B L wq aq tq)) xg2_24 xf2_25 xa2_22 (1 : Int32) xn ns np r_5 r_13 fi sz_ pt fh kd nd fw)))))))))) ∧ (¬ (xr = 0) → CP L (smc B L (frC B L wq aq tq)) (if xg = 0 then 3 else xg) (if xg = 0 then xt else xf) xa xr xn ns np fu fd fi sz_ pt fh kd nd fw) := by
  obtain ⟨hX, ⟨ha, rfl, rfl, rfl⟩, rfl, hW, rfl, rfl, h9, h8⟩ := hp
  obtain ⟨n0, p0, T, ff, fn⟩ := tq
  have hL := hX.1
  dsimp only at h9 h8 ⊢
  have hns : ns = nI n0 := hW.1.1
  have hnp : np = nI p0 := hW.1.2.1
  rw [flg_0]
  simp only [if_true]
  refine ⟨fun hlt => ?_, fun hlt => ?_⟩
  · subst hlt
    refine ⟨B, L, .inr aq, ⟨hX, ha, rfl, rfl, rfl⟩, fun r1 a1 t1 g1 f1 h1 => ?_⟩
    have h1 : CSn L (nuR B L 0 99 aq) r1 g1 f1 a1 t1 := h1
    cases q1 : nuR B L 0 99 aq with
    | inl x =>
      rw [q1] at h1
      have e : smc B L (frC B L wq aq (n0, p0, T, false, fn)) = .inl x := by unfold frC; rw [frN_1 q1]; rfl
      rw [e]
      exact ⟨B, L, .inl x, ⟨hX, h1⟩, fun r2 a2 t2 g2 f2 h2 => ⟨B, L, .inl x, ⟨hX, h2⟩, fun a4 t4 g4 f4 h4 => h4⟩⟩
    | inr o1 =>
      obtain ⟨b1, u1, v1⟩ := o1
      rw [q1] at h1
      obtain ⟨k1, rfl, w1⟩ := h1
      refine ⟨B, L, .inr b1, ⟨hX, k1⟩, fun r2 a2 t2 g2 f2 h2 => ?_⟩
      have h2 : CSn L (nuR B L 0 99 b1) r2 g2 f2 a2 t2 := h2
      cases q2 : nuR B L 0 99 b1 with
      | inl x =>
        rw [q2] at h2
        have e : smc B L (frC B L wq aq (n0, p0, T, false, fn)) = .inl x := by unfold frC; rw [frN_2 q1 q2]; rfl
        rw [e]
        exact ⟨B, L, .inl x, ⟨hX, h2⟩, fun a4 t4 g4 f4 h4 => h4⟩
      | inr o2 =>
        obtain ⟨b2, u2, v2⟩ := o2
        rw [q2] at h2
        obtain ⟨k2, rfl, w2⟩ := h2
        have e5 : frN B L false wq aq = .inr (b2, v1, v2) := frN_5 q1 q2
        refine ⟨B, L, .inr b2, ⟨hX, k2⟩, fun a4 t4 g4 f4 h4 => ?_⟩
        have h4 : CSs L (smR B L b2) g4 f4 a4 := h4
        cases q4 : smR B L b2 with
        | inl x =>
          rw [q4] at h4
          have e : smc B L (frC B L wq aq (n0, p0, T, false, fn)) = .inl x := by unfold frC; rw [e5]; exact smc_f q4
          rw [e]
          exact h4
        | inr b4 =>
          rw [q4] at h4
          have e : smc B L (frC B L wq aq (n0, p0, T, false, fn)) = .inr (b4, n0, p0, uT (uT T 4 0 v1) 4 1 v2, true, fn) := by unfold frC; rw [e5]; exact smc_o q4
          rw [e]
          exact ⟨h4, CW_frost hW w1 w2, rfl, rfl⟩
  · have hff : ff = true := by cases ff with
      | true => rfl
      | false => exact absurd rfl hlt
    subst hff
    exact CSf.mk (f := 3) (by decide) (by decide) ha
theorem k_X5_readFrost (l : Launch) (G : Gt) (e0 e01 t t1 t2 t3 t4 t5 t6 : Nat) (sz : Nat) (xb : Nat → Int32) (xl : Int32) (xf : Int32) (xg : Int32) (xa : Int32) (xt : Int32) (xr : Int32) (xn : Int32) (ns : Int32) (np : Int32) (fu : Int32) (fd : Int32) (fi : Int32) (sz_ : Nat → Int32) (pt : Nat → Int32) (fh : Nat → Int32) (kd : Nat → Int32) (nd : Nat → Int32) (fw : Nat → Int32) (B : Nat → Int) (L : Nat) (aq : Nat) (wq : Nat) (tq : PTn) (hp : CX B L xb xl ∧ CSo L aq xg xf xa ∧ xt = nI wq ∧ CW tq ns np fu fd fi sz_ pt fh kd nd fw ∧ xr = flg tq.2.2.2.1 ∧ xn = flg tq.2.2.2.2 ∧ tq.1 ≤ 9 ∧ tq.2.1 ≤ 8) : MetV l yX5_readFrost wsX5_readFrost 2 45 G [.ref e0, .ref t] [(e0, .inr (5, [.ref e01, .int xl, .int xf, .int xg, .int xa, .int xt, .int xr, .int xn])), aB G e01 400 xb, (t, .inr (6, [.int ns, .int np, .int fu, .int fd, .int fi, .ref t1, .ref t2, .ref t3, .ref t4, .ref t5, .ref t6])), aI G t1 9 sz_, aI G t2 9 pt, aI G t3 9 fh, aI G t4 8 kd, aI G t5 8 nd, aI G t6 8 fw] sz (fun (u : (Int32) × (Int32) × (Int32) × (Int32) × (Int32) × (Int32) × (Int32)) => CP L (smc B L (frC B L wq aq tq)) u.2.2.1 u.2.2.2.1 u.1 u.2.2.2.2.1 xn ns np u.2.2.2.2.2.1 u.2.2.2.2.2.2 fi sz_ pt fh kd nd fw) (fun (u : (Int32) × (Int32) × (Int32) × (Int32) × (Int32) × (Int32) × (Int32)) => [(e0, .inr (5, [.ref e01, .int xl, .int u.2.2.2.1, .int u.2.2.1, .int u.1, .int u.2.1, .int u.2.2.2.2.1, .int xn])), aB G e01 400 xb, (t, .inr (6, [.int ns, .int np, .int u.2.2.2.2.2.1, .int u.2.2.2.2.2.2, .int fi, .ref t1, .ref t2, .ref t3, .ref t4, .ref t5, .ref t6])), aI G t1 9 sz_, aI G t2 9 pt, aI G t3 9 fh, aI G t4 8 kd, aI G t5 8 nd, aI G t6 8 fw]) :=
  c_X5_readFrost l G e0 e01 t t1 t2 t3 t4 t5 t6 sz xb xl xf xg xa xt xr xn ns np fu fd fi sz_ pt fh kd nd fw B L aq wq tq (v_X5_readFrost l G e0 e01 t t1 t2 t3 t4 t5 t6 sz xb xl xf xg xa xt xr xn ns np fu fd fi sz_ pt fh kd nd fw B L aq wq tq hp)

set_option maxHeartbeats 4000000 in
set_option maxRecDepth 100000 in
theorem c_X5_readFine (l : Launch) (G : Gt) (e0 e01 t t1 t2 t3 t4 t5 t6 : Nat) (sz : Nat) (xb : Nat → Int32) (xl : Int32) (xf : Int32) (xg : Int32) (xa : Int32) (xt : Int32) (xr : Int32) (xn : Int32) (ns : Int32) (np : Int32) (fu : Int32) (fd : Int32) (fi : Int32) (sz_ : Nat → Int32) (pt : Nat → Int32) (fh : Nat → Int32) (kd : Nat → Int32) (nd : Nat → Int32) (fw : Nat → Int32) (B : Nat → Int) (L : Nat) (aq : Nat) (wq : Nat) (tq : PTn) (hv : (xn = 0 → ∃ (gB_2 : Nat → Int) (gL_3 : Nat) (gst_4 : Flt ⊕ Nat), ((CX gB_2 gL_3 xb xl ∧ CSs gL_3 gst_4 xg xf xa) ∧ (∀ (r_5 : Int32) (xa2_6 : Int32) (xt2_7 : Int32) (xg2_8 : Int32) (xf2_9 : Int32), (CSn gL_3 (bnd gst_4 (nuR gB_2 gL_3 (0 : Int32).toInt (99 : Int32).toInt)) r_5 xg2_8 xf2_9 xa2_6 xt2_7) → (∃ (gB_10 : Nat → Int) (gL_11 : Nat) (gst_12 : Flt ⊕ Nat), ((CX gB_10 gL_11 xb xl ∧ CSs gL_11 gst_12 xg2_8 xf2_9 xa2_6) ∧ (∀ (xa2_14 : Int32) (xt2_15 : Int32) (xg2_16 : Int32) (xf2_17 : Int32), (CSs gL_11 (bnd gst_12 (smR gB_10 gL_11)) xg2_16 xf2_17 xa2_14) → (CP L (smc B L (fiC B L wq aq tq)) xg2_16 xf2_17 xa2_14 xr (1 : Int32) ns np fu fd r_5 sz_ pt fh kd nd fw))))))) ∧ (¬ (xn = 0) → CP L (smc B L (fiC B L wq aq tq)) (if xg = 0 then 3 else xg) (if xg = 0 then xt else xf) xa xr xn ns np fu fd fi sz_ pt fh kd nd fw)) : MetV l yX5_readFine wsX5_readFine 2 45 G [.ref e0, .ref t] [(e0, .inr (5, [.ref e01, .int xl, .int xf, .int xg, .int xa, .int xt, .int xr, .int xn])), aB G e01 400 xb, (t, .inr (6, [.int ns, .int np, .int fu, .int fd, .int fi, .ref t1, .ref t2, .ref t3, .ref t4, .ref t5, .ref t6])), aI G t1 9 sz_, aI G t2 9 pt, aI G t3 9 fh, aI G t4 8 kd, aI G t5 8 nd, aI G t6 8 fw] sz (fun (u : (Int32) × (Int32) × (Int32) × (Int32) × (Int32) × (Int32)) => CP L (smc B L (fiC B L wq aq tq)) u.2.2.1 u.2.2.2.1 u.1 xr u.2.2.2.2.1 ns np fu fd u.2.2.2.2.2 sz_ pt fh kd nd fw) (fun (u : (Int32) × (Int32) × (Int32) × (Int32) × (Int32) × (Int32)) => [(e0, .inr (5, [.ref e01, .int xl, .int u.2.2.2.1, .int u.2.2.1, .int u.1, .int u.2.1, .int xr, .int u.2.2.2.2.1])), aB G e01 400 xb, (t, .inr (6, [.int ns, .int np, .int fu, .int fd, .int u.2.2.2.2.2, .ref t1, .ref t2, .ref t3, .ref t4, .ref t5, .ref t6])), aI G t1 9 sz_, aI G t2 9 pt, aI G t3 9 fh, aI G t4 8 kd, aI G t5 8 nd, aI G t6 8 fw]) := by
  refine x_startV (cc := cX5_readFine) (maxL := 2) (ret := none) (by decide) rfl (Nat.le_of_ble_eq_true rfl) ?_
  intro p e s m args below meth c A R Q ls hRf hRl hQ C hP hD hS hA hSS hl
  obtain ⟨hx, hb, hr, hml, hown, hts, hlocks, hKK⟩ := C
  have hown : s.vm.findClass RX5 = some m.cls := hown
  have hl : lv_has ls 2 [(0, .ref e0), (1, .ref t)] := hl
  have hinX5 : ∀ w ∈ u_ws RX5 TX5 8, w ∈ wsX5_readFine := by decide +kernel
  have hinX6 : ∀ w ∈ u_ws RX6 TX6 11, w ∈ wsX5_readFine := by decide +kernel
  have kl112 := hts (.fieldLink RX5 112 "WarmStones$Town" "fine" "I") (by decide +kernel)
  have kl32 := hts (.fieldLink RX5 32 "WarmStones$Text" "fineTold" "Z") (by decide +kernel)
  refine lv_aload_n hx hb dX5_readFine_0 rfl (lv_at hl 0 rfl) ?_
  refine va_get (D := G.1) (ci := 5) (v := .int xn) (C := RX5) (T := TX5) (N := 8) hx hb hts hinX5 hown hKK.1 hP 0 rfl rfl 7 (by decide) kl32 (fun _ h9 => h9) rfl dX5_readFine_1 ?_
  refine lv_if_eq (tgt := 13) hx hb dX5_readFine_4 (by decide) (fun hc_1 => ?_) (fun hc_1 => ?_)
  · have hv := hv.1 hc_1
    refine lv_aload_n hx hb dX5_readFine_13 rfl (lv_at hl 0 rfl) ?_
    refine lv_iconst (v := 1) hx hb dX5_readFine_14 (by decide) ?_
    refine va_put (D := G.1) (ci := 5) (v := .int 1) (ty := .boolean) (C := RX5) (T := TX5) (N := 8) hx hb hts hinX5 tyX5 tyX5_ok nmX5 hown hKK.1 hP hD hS 0 rfl rfl 7 (by decide) kl32 (fun _ h9 => h9) rfl (by decide +kernel) rfl rfl (Nat.le_of_ble_eq_true rfl) dX5_readFine_15 (fun H locs hP hD hS => ?_)
    have hP : va_P G.1 vwCl [(e0, .inr (5, [.ref e01, .int xl, .int xf, .int xg, .int xa, .int xt, .int xr, .int 1])), aB G e01 400 xb, (t, .inr (6, [.int ns, .int np, .int fu, .int fd, .int fi, .ref t1, .ref t2, .ref t3, .ref t4, .ref t5, .ref t6])), aI G t1 9 sz_, aI G t2 9 pt, aI G t3 9 fh, aI G t4 8 kd, aI G t5 8 nd, aI G t6 8 fw] H := hP
    have hD : va_D A [(e0, .inr (5, [.ref e01, .int xl, .int xf, .int xg, .int xa, .int xt, .int xr, .int 1])), aB G e01 400 xb, (t, .inr (6, [.int ns, .int np, .int fu, .int fd, .int fi, .ref t1, .ref t2, .ref t3, .ref t4, .ref t5, .ref t6])), aI G t1 9 sz_, aI G t2 9 pt, aI G t3 9 fh, aI G t4 8 kd, aI G t5 8 nd, aI G t6 8 fw] := hD
    refine lv_aload_n hx hb dX5_readFine_18 rfl (lv_at hl 1 rfl) ?_
    refine lv_aload_n hx hb dX5_readFine_19 rfl (lv_at hl 0 rfl) ?_
    refine lv_iconst (v := 0) hx hb dX5_readFine_20 (by decide) ?_
    refine lv_bipush (v := 99) hx hb dX5_readFine_21 (by decide) ?_
    obtain ⟨gB_2, gL_3, gst_4, hv⟩ := hv
    obtain ⟨hp, hv⟩ := hv
    refine x_calli (wr := [(t, .inr (6, [.int ns, .int np, .int fu, .int fd, .int fi, .ref t1, .ref t2, .ref t3, .ref t4, .ref t5, .ref t6])), aI G t1 9 sz_, aI G t2 9 pt, aI G t3 9 fh, aI G t4 8 kd, aI G t5 8 nd, aI G t6 8 fw]) (w' := fun (u : (Int32) × (Int32) × (Int32) × (Int32)) => [(e0, .inr (5, [.ref e01, .int xl, .int u.2.2.2, .int u.2.2.1, .int u.1, .int u.2.1, .int xr, .int 1])), aB G e01 400 xb, (t, .inr (6, [.int ns, .int np, .int fu, .int fd, .int fi, .ref t1, .ref t2, .ref t3, .ref t4, .ref t5, .ref t6])), aI G t1 9 sz_, aI G t2 9 pt, aI G t3 9 fh, aI G t4 8 kd, aI G t5 8 nd, aI G t6 8 fw]) (x_runV (As := [.int 0, .int 99]) (rest := [.ref t]) (n := 2) (C := RX5) (ci := 5) ⟨hx, hb, hml, hown, hts⟩ (k_X5_readNumber l G e0 e01 _ xb xl xf xg xa xt xr 1 0 99 gB_2 gL_3 gst_4 hp) gX5_readFine_X5_readNumber rfl (by decide +kernel) ⟨Nat.le_trans (Nat.le_of_ble_eq_true rfl) hRf, Nat.le_trans (Nat.le_of_ble_eq_true rfl) hRl⟩ hKK hSS hS hA hP hD [0, 1] (by decide) rfl rfl rfl 0 rfl rfl hl.1 rfl (Nat.le_of_ble_eq_true rfl) dX5_readFine_23) hP hD hS hA [0, 1] [2, 3, 4, 5, 6, 7, 8] [7, 8, 0, 1, 2, 3, 4, 5, 6] rfl rfl (by decide) (by decide) (by decide) (fun _ => rfl) (fun r_5 u H locs hw hP hD hS => ?_)
    obtain ⟨xa2_6, xt2_7, xg2_8, xf2_9⟩ := u
    have hP : va_P G.1 vwCl [(e0, .inr (5, [.ref e01, .int xl, .int xf2_9, .int xg2_8, .int xa2_6, .int xt2_7, .int xr, .int 1])), aB G e01 400 xb, (t, .inr (6, [.int ns, .int np, .int fu, .int fd, .int fi, .ref t1, .ref t2, .ref t3, .ref t4, .ref t5, .ref t6])), aI G t1 9 sz_, aI G t2 9 pt, aI G t3 9 fh, aI G t4 8 kd, aI G t5 8 nd, aI G t6 8 fw] H := hP
    have hD : va_D A [(e0, .inr (5, [.ref e01, .int xl, .int xf2_9, .int xg2_8, .int xa2_6, .int xt2_7, .int xr, .int 1])), aB G e01 400 xb, (t, .inr (6, [.int ns, .int np, .int fu, .int fd, .int fi, .ref t1, .ref t2, .ref t3, .ref t4, .ref t5, .ref t6])), aI G t1 9 sz_, aI G t2 9 pt, aI G t3 9 fh, aI G t4 8 kd, aI G t5 8 nd, aI G t6 8 fw] := hD
    have hv := hv r_5 xa2_6 xt2_7 xg2_8 xf2_9 hw
    refine va_put (D := G.1) (ci := 6) (v := .int r_5) (ty := .int) (C := RX6) (T := TX6) (N := 11) hx hb hts hinX6 tyX6 tyX6_ok nmX6 hown hKK.1 hP hD hS 2 rfl rfl 4 (by decide) kl112 (fun _ h9 => h9) rfl (by decide +kernel) rfl rfl (Nat.le_of_ble_eq_true rfl) dX5_readFine_26 (fun H locs hP hD hS => ?_)
    have hP : va_P G.1 vwCl [(e0, .inr (5, [.ref e01, .int xl, .int xf2_9, .int xg2_8, .int xa2_6, .int xt2_7, .int xr, .int 1])), aB G e01 400 xb, (t, .inr (6, [.int ns, .int np, .int fu, .int fd, .int r_5, .ref t1, .ref t2, .ref t3, .ref t4, .ref t5, .ref t6])), aI G t1 9 sz_, aI G t2 9 pt, aI G t3 9 fh, aI G t4 8 kd, aI G t5 8 nd, aI G t6 8 fw] H := hP
    have hD : va_D A [(e0, .inr (5, [.ref e01, .int xl, .int xf2_9, .int xg2_8, .int xa2_6, .int xt2_7, .int xr, .int 1])), aB G e01 400 xb, (t, .inr (6, [.int ns, .int np, .int fu, .int fd, .int r_5, .ref t1, .ref t2, .ref t3, .ref t4, .ref t5, .ref t6])), aI G t1 9 sz_, aI G t2 9 pt, aI G t3 9 fh, aI G t4 8 kd, aI G t5 8 nd, aI G t6 8 fw] := hD
    refine lv_aload_n hx hb dX5_readFine_29 rfl (lv_at hl 0 rfl) ?_
    obtain ⟨gB_10, gL_11, gst_12, hv⟩ := hv
    obtain ⟨hp, hv⟩ := hv
    refine x_callv (wr := [(t, .inr (6, [.int ns, .int np, .int fu, .int fd, .int r_5, .ref t1, .ref t2, .ref t3, .ref t4, .ref t5, .ref t6])), aI G t1 9 sz_, aI G t2 9 pt, aI G t3 9 fh, aI G t4 8 kd, aI G t5 8 nd, aI G t6 8 fw]) (w' := fun (u : (Int32) × (Int32) × (Int32) × (Int32)) => [(e0, .inr (5, [.ref e01, .int xl, .int u.2.2.2, .int u.2.2.1, .int u.1, .int u.2.1, .int xr, .int 1])), aB G e01 400 xb, (t, .inr (6, [.int ns, .int np, .int fu, .int fd, .int r_5, .ref t1, .ref t2, .ref t3, .ref t4, .ref t5, .ref t6])), aI G t1 9 sz_, aI G t2 9 pt, aI G t3 9 fh, aI G t4 8 kd, aI G t5 8 nd, aI G t6 8 fw]) (x_runV (As := []) (rest := []) (n := 0) (C := RX5) (ci := 5) ⟨hx, hb, hml, hown, hts⟩ (k_X5_readEnd l G e0 e01 _ xb xl xf2_9 xg2_8 xa2_6 xt2_7 xr 1 gB_10 gL_11 gst_12 hp) gX5_readFine_X5_readEnd rfl (by decide +kernel) ⟨Nat.le_trans (Nat.le_of_ble_eq_true rfl) hRf, Nat.le_trans (Nat.le_of_ble_eq_true rfl) hRl⟩ hKK hSS hS hA hP hD [0, 1] (by decide) rfl rfl rfl 0 rfl rfl hl.1 rfl (Nat.le_of_ble_eq_true rfl) dX5_readFine_30) hP hD hS hA [0, 1] [2, 3, 4, 5, 6, 7, 8] [7, 8, 0, 1, 2, 3, 4, 5, 6] rfl rfl (by decide) (by decide) (by decide) (fun _ => rfl) (fun  u H locs hw hP hD hS => ?_)
    obtain ⟨xa2_14, xt2_15, xg2_16, xf2_17⟩ := u
    have hP : va_P G.1 vwCl [(e0, .inr (5, [.ref e01, .int xl, .int xf2_17, .int xg2_16, .int xa2_14, .int xt2_15, .int xr, .int 1])), aB G e01 400 xb, (t, .inr (6, [.int ns, .int np, .int fu, .int fd, .int r_5, .ref t1, .ref t2, .ref t3, .ref t4, .ref t5, .ref t6])), aI G t1 9 sz_, aI G t2 9 pt, aI G t3 9 fh, aI G t4 8 kd, aI G t5 8 nd, aI G t6 8 fw] H := hP
    have hD : va_D A [(e0, .inr (5, [.ref e01, .int xl, .int xf2_17, .int xg2_16, .int xa2_14, .int xt2_15, .int xr, .int 1])), aB G e01 400 xb, (t, .inr (6, [.int ns, .int np, .int fu, .int fd, .int r_5, .ref t1, .ref t2, .ref t3, .ref t4, .ref t5, .ref t6])), aI G t1 9 sz_, aI G t2 9 pt, aI G t3 9 fh, aI G t4 8 kd, aI G t5 8 nd, aI G t6 8 fw] := hD
    have hv := hv xa2_14 xt2_15 xg2_16 xf2_17 hw
    exact x_vret (xa2_14, xt2_15, xg2_16, xf2_17, 1, r_5) hQ hx hb hr hlocks hS dX5_readFine_33 hv hP hD
  · have hv := hv.2 hc_1
    refine lv_aload_n hx hb dX5_readFine_7 rfl (lv_at hl 0 rfl) ?_
    refine lv_iconst (v := 3) hx hb dX5_readFine_8 (by decide) ?_
    refine x_callv (wr := [(t, .inr (6, [.int ns, .int np, .int fu, .int fd, .int fi, .ref t1, .ref t2, .ref t3, .ref t4, .ref t5, .ref t6])), aI G t1 9 sz_, aI G t2 9 pt, aI G t3 9 fh, aI G t4 8 kd, aI G t5 8 nd, aI G t6 8 fw]) (w' := fun (u : (Int32) × (Int32)) => [(e0, .inr (5, [.ref e01, .int xl, .int u.2, .int u.1, .int xa, .int xt, .int xr, .int xn])), aB G e01 400 xb, (t, .inr (6, [.int ns, .int np, .int fu, .int fd, .int fi, .ref t1, .ref t2, .ref t3, .ref t4, .ref t5, .ref t6])), aI G t1 9 sz_, aI G t2 9 pt, aI G t3 9 fh, aI G t4 8 kd, aI G t5 8 nd, aI G t6 8 fw]) (x_runV (As := [.int 3]) (rest := []) (n := 1) (C := RX5) (ci := 5) ⟨hx, hb, hml, hown, hts⟩ (k_X5_fail l G e0 e01 _ xb xl xf xg xa xt xr xn 3) gX5_readFine_X5_fail rfl (by decide +kernel) ⟨Nat.le_trans (Nat.le_of_ble_eq_true rfl) hRf, Nat.le_trans (Nat.le_of_ble_eq_true rfl) hRl⟩ hKK hSS hS hA hP hD [0, 1] (by decide) rfl rfl rfl 0 rfl rfl hl.1 rfl (Nat.le_of_ble_eq_true rfl) dX5_readFine_9) hP hD hS hA [0, 1] [2, 3, 4, 5, 6, 7, 8] [7, 8, 0, 1, 2, 3, 4, 5, 6] rfl rfl (by decide) (by decide) (by decide) (fun _ => rfl) (fun  u H locs hw hP hD hS => ?_)
    obtain ⟨xg2_19, xf2_20⟩ := u
    obtain ⟨hw0, hw1⟩ := hw
    replace hw0 := hw0.symm; subst hw0
    replace hw1 := hw1.symm; subst hw1
    have hP : va_P G.1 vwCl [(e0, .inr (5, [.ref e01, .int xl, .int (if xg = 0 then xt else xf), .int (if xg = 0 then 3 else xg), .int xa, .int xt, .int xr, .int xn])), aB G e01 400 xb, (t, .inr (6, [.int ns, .int np, .int fu, .int fd, .int fi, .ref t1, .ref t2, .ref t3, .ref t4, .ref t5, .ref t6])), aI G t1 9 sz_, aI G t2 9 pt, aI G t3 9 fh, aI G t4 8 kd, aI G t5 8 nd, aI G t6 8 fw] H := hP
    have hD : va_D A [(e0, .inr (5, [.ref e01, .int xl, .int (if xg = 0 then xt else xf), .int (if xg = 0 then 3 else xg), .int xa, .int xt, .int xr, .int xn])), aB G e01 400 xb, (t, .inr (6, [.int ns, .int np, .int fu, .int fd, .int fi, .ref t1, .ref t2, .ref t3, .ref t4, .ref t5, .ref t6])), aI G t1 9 sz_, aI G t2 9 pt, aI G t3 9 fh, aI G t4 8 kd, aI G t5 8 nd, aI G t6 8 fw] := hD
    exact x_vret (xa, xt, (if xg = 0 then 3 else xg), (if xg = 0 then xt else xf), xn, fi) hQ hx hb hr hlocks hS dX5_readFine_12 hv hP hD
theorem v_X5_readFine (l : Launch) (G : Gt) (e0 e01 t t1 t2 t3 t4 t5 t6 : Nat) (sz : Nat) (xb : Nat → Int32) (xl : Int32) (xf : Int32) (xg : Int32) (xa : Int32) (xt : Int32) (xr : Int32) (xn : Int32) (ns : Int32) (np : Int32) (fu : Int32) (fd : Int32) (fi : Int32) (sz_ : Nat → Int32) (pt : Nat → Int32) (fh : Nat → Int32) (kd : Nat → Int32) (nd : Nat → Int32) (fw : Nat → Int32) (B : Nat → Int) (L : Nat) (aq : Nat) (wq : Nat) (tq : PTn) (hp : CX B L xb xl ∧ CSo L aq xg xf xa ∧ xt = nI wq ∧ CW tq ns np fu fd fi sz_ pt fh kd nd fw ∧ xr = flg tq.2.2.2.1 ∧ xn = flg tq.2.2.2.2 ∧ tq.1 ≤ 9 ∧ tq.2.1 ≤ 8) : (xn = 0 → ∃ (gB_2 : Nat → Int) (gL_3 : Nat) (gst_4 : Flt ⊕ Nat), ((CX gB_2 gL_3 xb xl ∧ CSs gL_3 gst_4 xg xf xa) ∧ (∀ (r_5 : Int32) (xa2_6 : Int32) (xt2_7 : Int32) (xg2_8 : Int32) (xf2_9 : Int32), (CSn gL_3 (bnd gst_4 (nuR gB_2 gL_3 (0 : Int32).toInt (99 : Int32).toInt)) r_5 xg2_8 xf2_9 xa2_6 xt2_7) → (∃ (gB_10 : Nat → Int) (gL_11 : Nat) (gst_12 : Flt ⊕ Nat), ((CX gB_10 gL_11 xb xl ∧ CSs gL_11 gst_12 xg2_8 xf2_9 xa2_6) ∧ (∀ (xa2_14 : Int32) (xt2_15 : Int32) (xg2_16 : Int32) (xf2_17 : Int32), (CSs gL_11 (bnd gst_12 (smR gB_10 gL_11)) xg2_16 xf2_17 xa2_14) → (CP L (smc B L (fiC B L wq aq tq)) xg2_16 xf2_17 xa2_14 xr (1 : Int32) ns np fu fd r_5 sz_ pt fh kd nd fw))))))) ∧ (¬ (xn = 0) → CP L (smc B L (fiC B L wq aq tq)) (if xg = 0 then 3 else xg) (if xg = 0 then xt else xf) xa xr xn ns np fu fd fi sz_ pt fh kd nd fw) := by
  obtain ⟨hX, ⟨ha, rfl, rfl, rfl⟩, rfl, hW, rfl, rfl, h9, h8⟩ := hp
  obtain ⟨n0, p0, T, ff, fn⟩ := tq
  have hL := hX.1
  dsimp only at h9 h8 ⊢
  have hns : ns = nI n0 := hW.1.1
  have hnp : np = nI p0 := hW.1.2.1
  rw [flg_0]
  simp only [if_true]
  refine ⟨fun hlt => ?_, fun hlt => ?_⟩
  · subst hlt
    refine ⟨B, L, .inr aq, ⟨hX, ha, rfl, rfl, rfl⟩, fun r1 a1 t1 g1 f1 h1 => ?_⟩
    have h1 : CSn L (nuR B L 0 99 aq) r1 g1 f1 a1 t1 := h1
    cases q1 : nuR B L 0 99 aq with
    | inl x =>
      rw [q1] at h1
      have e : smc B L (fiC B L wq aq (n0, p0, T, ff, false)) = .inl x := by unfold fiC; rw [fiN_1 q1]; rfl
      rw [e]
      exact ⟨B, L, .inl x, ⟨hX, h1⟩, fun a4 t4 g4 f4 h4 => h4⟩
    | inr o1 =>
      obtain ⟨b1, u1, v1⟩ := o1
      rw [q1] at h1
      obtain ⟨k1, rfl, w1⟩ := h1
      have e5 : fiN B L false wq aq = .inr (b1, v1) := fiN_5 q1
      refine ⟨B, L, .inr b1, ⟨hX, k1⟩, fun a4 t4 g4 f4 h4 => ?_⟩
      have h4 : CSs L (smR B L b1) g4 f4 a4 := h4
      cases q4 : smR B L b1 with
      | inl x =>
        rw [q4] at h4
        have e : smc B L (fiC B L wq aq (n0, p0, T, ff, false)) = .inl x := by unfold fiC; rw [e5]; exact smc_f q4
        rw [e]
        exact h4
      | inr b4 =>
        rw [q4] at h4
        have e : smc B L (fiC B L wq aq (n0, p0, T, ff, false)) = .inr (b4, n0, p0, uT T 4 2 v1, ff, true) := by unfold fiC; rw [e5]; exact smc_o q4
        rw [e]
        exact ⟨h4, CW_fine hW w1, rfl, rfl⟩
  · have hff : fn = true := by cases fn with
      | true => rfl
      | false => exact absurd rfl hlt
    subst hff
    exact CSf.mk (f := 3) (by decide) (by decide) ha
theorem k_X5_readFine (l : Launch) (G : Gt) (e0 e01 t t1 t2 t3 t4 t5 t6 : Nat) (sz : Nat) (xb : Nat → Int32) (xl : Int32) (xf : Int32) (xg : Int32) (xa : Int32) (xt : Int32) (xr : Int32) (xn : Int32) (ns : Int32) (np : Int32) (fu : Int32) (fd : Int32) (fi : Int32) (sz_ : Nat → Int32) (pt : Nat → Int32) (fh : Nat → Int32) (kd : Nat → Int32) (nd : Nat → Int32) (fw : Nat → Int32) (B : Nat → Int) (L : Nat) (aq : Nat) (wq : Nat) (tq : PTn) (hp : CX B L xb xl ∧ CSo L aq xg xf xa ∧ xt = nI wq ∧ CW tq ns np fu fd fi sz_ pt fh kd nd fw ∧ xr = flg tq.2.2.2.1 ∧ xn = flg tq.2.2.2.2 ∧ tq.1 ≤ 9 ∧ tq.2.1 ≤ 8) : MetV l yX5_readFine wsX5_readFine 2 45 G [.ref e0, .ref t] [(e0, .inr (5, [.ref e01, .int xl, .int xf, .int xg, .int xa, .int xt, .int xr, .int xn])), aB G e01 400 xb, (t, .inr (6, [.int ns, .int np, .int fu, .int fd, .int fi, .ref t1, .ref t2, .ref t3, .ref t4, .ref t5, .ref t6])), aI G t1 9 sz_, aI G t2 9 pt, aI G t3 9 fh, aI G t4 8 kd, aI G t5 8 nd, aI G t6 8 fw] sz (fun (u : (Int32) × (Int32) × (Int32) × (Int32) × (Int32) × (Int32)) => CP L (smc B L (fiC B L wq aq tq)) u.2.2.1 u.2.2.2.1 u.1 xr u.2.2.2.2.1 ns np fu fd u.2.2.2.2.2 sz_ pt fh kd nd fw) (fun (u : (Int32) × (Int32) × (Int32) × (Int32) × (Int32) × (Int32)) => [(e0, .inr (5, [.ref e01, .int xl, .int u.2.2.2.1, .int u.2.2.1, .int u.1, .int u.2.1, .int xr, .int u.2.2.2.2.1])), aB G e01 400 xb, (t, .inr (6, [.int ns, .int np, .int fu, .int fd, .int u.2.2.2.2.2, .ref t1, .ref t2, .ref t3, .ref t4, .ref t5, .ref t6])), aI G t1 9 sz_, aI G t2 9 pt, aI G t3 9 fh, aI G t4 8 kd, aI G t5 8 nd, aI G t6 8 fw]) :=
  c_X5_readFine l G e0 e01 t t1 t2 t3 t4 t5 t6 sz xb xl xf xg xa xt xr xn ns np fu fd fi sz_ pt fh kd nd fw B L aq wq tq (v_X5_readFine l G e0 e01 t t1 t2 t3 t4 t5 t6 sz xb xl xf xg xa xt xr xn ns np fu fd fi sz_ pt fh kd nd fw B L aq wq tq hp)

set_option maxHeartbeats 4000000 in
set_option maxRecDepth 100000 in
theorem c_X5_readClause (l : Launch) (G : Gt) (e0 e01 t t1 t2 t3 t4 t5 t6 : Nat) (sz : Nat) (xb : Nat → Int32) (xl : Int32) (xf : Int32) (xg : Int32) (xa : Int32) (xt : Int32) (xr : Int32) (xn : Int32) (ns : Int32) (np : Int32) (fu : Int32) (fd : Int32) (fi : Int32) (sz_ : Nat → Int32) (pt : Nat → Int32) (fh : Nat → Int32) (kd : Nat → Int32) (nd : Nat → Int32) (fw : Nat → Int32) (B : Nat → Int) (L : Nat) (aq : Nat) (tq : PTn) (hv : ∃ (gB_1 : Nat → Int) (gL_2 : Nat) (gaq_3 : Nat), ((CX gB_1 gL_2 xb xl ∧ xa = nI gaq_3 ∧ gaq_3 ≤ gL_2) ∧ (∀ (xa2_5 : Int32) (xt2_6 : Int32), (xt2_6 = nI (sk gB_1 gL_2 gaq_3) ∧ xa2_5 = nI (wE gB_1 gL_2 (sk gB_1 gL_2 gaq_3))) → (∃ (gB_7 : Nat → Int) (gL_8 : Nat) (gwq_9 : Nat) (geq__10 : Nat), ((CX gB_7 gL_8 xb xl ∧ xt2_6 = nI gwq_9 ∧ xa2_5 = nI geq__10 ∧ gwq_9 ≤ geq__10 ∧ geq__10 ≤ gL_8) ∧ (∀ (r_11 : Int32), (r_11 = (if wIs gB_7 gwq_9 geq__10 0 = true then 1 else 0)) → ((r_11 = 0 → ∃ (gB_13 : Nat → Int) (gL_14 : Nat) (gwq_15 : Nat) (geq__16 : Nat), ((CX gB_13 gL_14 xb xl ∧ xt2_6 = nI gwq_15 ∧ xa2_5 = nI geq__16 ∧ gwq_15 ≤ geq__16 ∧ geq__16 ≤ gL_14) ∧ (∀ (r_17 : Int32), (r_17 = (if wIs gB_13 gwq_15 geq__16 1 = true then 1 else 0)) → ((r_17 = 0 → ∃ (gB_19 : Nat → Int) (gL_20 : Nat) (gwq_21 : Nat) (geq__22 : Nat), ((CX gB_19 gL_20 xb xl ∧ xt2_6 = nI gwq_21 ∧ xa2_5 = nI geq__22 ∧ gwq_21 ≤ geq__22 ∧ geq__22 ≤ gL_20) ∧ (∀ (r_23 : Int32), (r_23 = (if wIs gB_19 gwq_21 geq__22 2 = true then 1 else 0)) → ((r_23 = 0 → ∃ (gB_25 : Nat → Int) (gL_26 : Nat) (gwq_27 : Nat) (geq__28 : Nat), ((CX gB_25 gL_26 xb xl ∧ xt2_6 = nI gwq_27 ∧ xa2_5 = nI geq__28 ∧ gwq_27 ≤ geq__28 ∧ geq__28 ≤ gL_26) ∧ (∀ (r_29 : Int32), (r_29 = (if wIs gB_25 gwq_27 geq__28 3 = true then 1 else 0)) → ((r_29 = 0 → CP L (clR B L aq tq) (if xg = 0 then 1 else xg) (if xg = 0 then xt2_6 else xf) xa2_5 xr xn ns np fu fd fi sz_ pt fh kd nd fw) ∧ (¬ (r_29 = 0) → ∃ (gB_34 : Nat → Int) (gL_35 : Nat) (gaq_36 : Nat) (gwq_37 : Nat) (gtq_38 : PTn), ((CX gB_34 gL_35 xb xl ∧ CSo gL_35 gaq_36 xg xf xa2_5 ∧ xt2_6 = nI gwq_37 ∧ CW gtq_38 ns np fu fd fi sz_ pt fh kd nd fw ∧ xr = flg gtq_38.2.2.2.1 ∧ xn = flg gtq_38.2.2.2.2 ∧ gtq_38.1 ≤ 9 ∧ gtq_38.2.1 ≤ 8) ∧ (∀ (xa2_40 : Int32) (xt2_41 : Int32) (xg2_42 : Int32) (xf2_43 : Int32) (xn2_44 : Int32) (fi2_45 : Int32), (CP gL_35 (smc gB_34 gL_35 (fiC gB_34 gL_35 gwq_37 gaq_36 gtq_38)) xg2_42 xf2_43 xa2_40 xr xn2_44 ns np fu fd fi2_45 sz_ pt fh kd nd fw) → (CP L (clR B L aq tq) xg2_42 xf2_43 xa2_40 xr xn2_44 ns np fu fd fi2_45 sz_ pt fh kd nd fw)))))))) ∧ (¬ (r_23 = 0) → ∃ (gB_46 : Nat → Int) (gL_47 : Nat) (gaq_48 : Nat) (gwq_49 : Nat) (gtq_50 : PTn), ((CX gB_46 gL_47 xb xl ∧ CSo gL_47 gaq_48 xg xf xa2_5 ∧ xt2_6 = nI gwq_49 ∧ CW gtq_50 ns np fu fd fi sz_ pt fh kd nd fw ∧ xr = flg gtq_50.2.2.2.1 ∧ xn = flg gtq_50.2.2.2.2 ∧ gtq_50.1 ≤ 9 ∧ gtq_50.2.1 ≤ 8) ∧ (∀ (xa2_52 : Int32) (xt2_53 : Int32) (xg2_54 : Int32) (xf2_55 : Int32) (xr2_56 : Int32) (fu2_57 : Int32) (fd2_58 : Int32), (CP gL_47 (smc gB_46 gL_47 (frC gB_46 gL_47 gwq_49 gaq_48 gtq_50)) xg2_54 xf2_55 xa2_52 xr2_56 xn ns np fu2_57 fd2_58 fi sz_ pt fh kd nd fw) → (CP L (clR B L aq tq) xg2_54 xf2_55 xa2_52 xr2_56 xn ns np fu2_57 fd2_58 fi sz_ pt fh kd nd fw)))))))) ∧ (¬ (r_17 = 0) → ∃ (gB_59 : Nat → Int) (gL_60 : Nat) (gaq_61 : Nat) (gwq_62 : Nat) (gtq_63 : PTn), ((CX gB_59 gL_60 xb xl ∧ CSo gL_60 gaq_61 xg xf xa2_5 ∧ xt2_6 = nI gwq_62 ∧ CW gtq_63 ns np fu fd fi sz_ pt fh kd nd fw ∧ xr = flg gtq_63.2.2.2.1 ∧ xn = flg gtq_63.2.2.2.2 ∧ gtq_63.1 ≤ 9 ∧ gtq_63.2.1 ≤ 8) ∧ (∀ (xa2_65 : Int32) (xt2_66 : Int32) (xg2_67 : Int32) (xf2_68 : Int32) (np2_69 : Int32) (kd2_70 : Nat → Int32) (nd2_71 : Nat → Int32) (fw2_72 : Nat → Int32), (CP gL_60 (smc gB_59 gL_60 (peC gB_59 gL_60 gwq_62 gaq_61 gtq_63)) xg2_67 xf2_68 xa2_65 xr xn ns np2_69 fu fd fi sz_ pt fh kd2_70 nd2_71 fw2_72) → (CP L (clR B L aq tq) xg2_67 xf2_68 xa2_65 xr xn ns np2_69 fu fd fi sz_ pt fh kd2_70 nd2_71 fw2_72)))))))) ∧ (¬ (r_11 = 0) → ∃ (gB_73 : Nat → Int) (gL_74 : Nat) (gaq_75 : Nat) (gwq_76 : Nat) (gtq_77 : PTn), ((CX gB_73 gL_74 xb xl ∧ CSo gL_74 gaq_75 xg xf xa2_5 ∧ xt2_6 = nI gwq_76 ∧ CW gtq_77 ns np fu fd fi sz_ pt fh kd nd fw ∧ xr = flg gtq_77.2.2.2.1 ∧ xn = flg gtq_77.2.2.2.2 ∧ gtq_77.1 ≤ 9 ∧ gtq_77.2.1 ≤ 8) ∧ (∀ (xa2_79 : Int32) (xt2_80 : Int32) (xg2_81 : Int32) (xf2_82 : Int32) (ns2_83 : Int32) (sz2_84 : Nat → Int32) (pt2_85 : Nat → Int32) (fh2_86 : Nat → Int32), (CP gL_74 (smc gB_73 gL_74 (stC gB_73 gL_74 gwq_76 gaq_75 gtq_77)) xg2_81 xf2_82 xa2_79 xr xn ns2_83 np fu fd fi sz2_84 pt2_85 fh2_86 kd nd fw) → (CP L (clR B L aq tq) xg2_81 xf2_82 xa2_79 xr xn ns2_83 np fu fd fi sz2_84 pt2_85 fh2_86 kd nd fw))))))))))) : MetV l yX5_readClause wsX5_readClause 7 151 G [.ref e0, .ref t] [(e0, .inr (5, [.ref e01, .int xl, .int xf, .int xg, .int xa, .int xt, .int xr, .int xn])), aB G e01 400 xb, (t, .inr (6, [.int ns, .int np, .int fu, .int fd, .int fi, .ref t1, .ref t2, .ref t3, .ref t4, .ref t5, .ref t6])), aI G t1 9 sz_, aI G t2 9 pt, aI G t3 9 fh, aI G t4 8 kd, aI G t5 8 nd, aI G t6 8 fw] sz (fun (u : (Int32) × (Int32) × (Int32) × (Int32) × (Int32) × (Int32) × (Int32) × (Nat → Int32) × (Nat → Int32) × (Nat → Int32) × (Int32) × (Nat → Int32) × (Nat → Int32) × (Nat → Int32) × (Int32) × (Int32) × (Int32)) => CP L (clR B L aq tq) u.2.2.1 u.2.2.2.1 u.1 u.2.2.2.2.1 u.2.2.2.2.2.1 u.2.2.2.2.2.2.1 u.2.2.2.2.2.2.2.2.2.2.1 u.2.2.2.2.2.2.2.2.2.2.2.2.2.2.1 u.2.2.2.2.2.2.2.2.2.2.2.2.2.2.2.1 u.2.2.2.2.2.2.2.2.2.2.2.2.2.2.2.2 u.2.2.2.2.2.2.2.1 u.2.2.2.2.2.2.2.2.1 u.2.2.2.2.2.2.2.2.2.1 u.2.2.2.2.2.2.2.2.2.2.2.1 u.2.2.2.2.2.2.2.2.2.2.2.2.1 u.2.2.2.2.2.2.2.2.2.2.2.2.2.1) (fun (u : (Int32) × (Int32) × (Int32) × (Int32) × (Int32) × (Int32) × (Int32) × (Nat → Int32) × (Nat → Int32) × (Nat → Int32) × (Int32) × (Nat → Int32) × (Nat → Int32) × (Nat → Int32) × (Int32) × (Int32) × (Int32)) => [(e0, .inr (5, [.ref e01, .int xl, .int u.2.2.2.1, .int u.2.2.1, .int u.1, .int u.2.1, .int u.2.2.2.2.1, .int u.2.2.2.2.2.1])), aB G e01 400 xb, (t, .inr (6, [.int u.2.2.2.2.2.2.1, .int u.2.2.2.2.2.2.2.2.2.2.1, .int u.2.2.2.2.2.2.2.2.2.2.2.2.2.2.1, .int u.2.2.2.2.2.2.2.2.2.2.2.2.2.2.2.1, .int u.2.2.2.2.2.2.2.2.2.2.2.2.2.2.2.2, .ref t1, .ref t2, .ref t3, .ref t4, .ref t5, .ref t6])), aI G t1 9 u.2.2.2.2.2.2.2.1, aI G t2 9 u.2.2.2.2.2.2.2.2.1, aI G t3 9 u.2.2.2.2.2.2.2.2.2.1, aI G t4 8 u.2.2.2.2.2.2.2.2.2.2.2.1, aI G t5 8 u.2.2.2.2.2.2.2.2.2.2.2.2.1, aI G t6 8 u.2.2.2.2.2.2.2.2.2.2.2.2.2.1]) := by
  refine x_startV (cc := cX5_readClause) (maxL := 2) (ret := none) (by decide) rfl (Nat.le_of_ble_eq_true rfl) ?_
  intro p e s m args below meth c A R Q ls hRf hRl hQ C hP hD hS hA hSS hl
  obtain ⟨hx, hb, hr, hml, hown, hts, hlocks, hKK⟩ := C
  have hown : s.vm.findClass RX5 = some m.cls := hown
  have hl : lv_has ls 2 [(0, .ref e0), (1, .ref t)] := hl
  refine lv_aload_n hx hb dX5_readClause_0 rfl (lv_at hl 0 rfl) ?_
  obtain ⟨gB_1, gL_2, gaq_3, hv⟩ := hv
  obtain ⟨hp, hv⟩ := hv
  refine x_callv (wr := [(t, .inr (6, [.int ns, .int np, .int fu, .int fd, .int fi, .ref t1, .ref t2, .ref t3, .ref t4, .ref t5, .ref t6])), aI G t1 9 sz_, aI G t2 9 pt, aI G t3 9 fh, aI G t4 8 kd, aI G t5 8 nd, aI G t6 8 fw]) (w' := fun (u : (Int32) × (Int32)) => [(e0, .inr (5, [.ref e01, .int xl, .int xf, .int xg, .int u.1, .int u.2, .int xr, .int xn])), aB G e01 400 xb, (t, .inr (6, [.int ns, .int np, .int fu, .int fd, .int fi, .ref t1, .ref t2, .ref t3, .ref t4, .ref t5, .ref t6])), aI G t1 9 sz_, aI G t2 9 pt, aI G t3 9 fh, aI G t4 8 kd, aI G t5 8 nd, aI G t6 8 fw]) (x_runV (As := []) (rest := []) (n := 0) (C := RX5) (ci := 5) ⟨hx, hb, hml, hown, hts⟩ (k_X5_readWord l G e0 e01 _ xb xl xf xg xa xt xr xn gB_1 gL_2 gaq_3 hp) gX5_readClause_X5_readWord rfl (by decide +kernel) ⟨Nat.le_trans (Nat.le_of_ble_eq_true rfl) hRf, Nat.le_trans (Nat.le_of_ble_eq_true rfl) hRl⟩ hKK hSS hS hA hP hD [0, 1] (by decide) rfl rfl rfl 0 rfl rfl hl.1 rfl (Nat.le_of_ble_eq_true rfl) dX5_readClause_1) hP hD hS hA [0, 1] [2, 3, 4, 5, 6, 7, 8] [7, 8, 0, 1, 2, 3, 4, 5, 6] rfl rfl (by decide) (by decide) (by decide) (fun _ => rfl) (fun  u H locs hw hP hD hS => ?_)
  obtain ⟨xa2_5, xt2_6⟩ := u
  have hP : va_P G.1 vwCl [(e0, .inr (5, [.ref e01, .int xl, .int xf, .int xg, .int xa2_5, .int xt2_6, .int xr, .int xn])), aB G e01 400 xb, (t, .inr (6, [.int ns, .int np, .int fu, .int fd, .int fi, .ref t1, .ref t2, .ref t3, .ref t4, .ref t5, .ref t6])), aI G t1 9 sz_, aI G t2 9 pt, aI G t3 9 fh, aI G t4 8 kd, aI G t5 8 nd, aI G t6 8 fw] H := hP
  have hD : va_D A [(e0, .inr (5, [.ref e01, .int xl, .int xf, .int xg, .int xa2_5, .int xt2_6, .int xr, .int xn])), aB G e01 400 xb, (t, .inr (6, [.int ns, .int np, .int fu, .int fd, .int fi, .ref t1, .ref t2, .ref t3, .ref t4, .ref t5, .ref t6])), aI G t1 9 sz_, aI G t2 9 pt, aI G t3 9 fh, aI G t4 8 kd, aI G t5 8 nd, aI G t6 8 fw] := hD
  have hv := hv xa2_5 xt2_6 hw
  refine lv_aload_n hx hb dX5_readClause_4 rfl (lv_at hl 0 rfl) ?_
  refine va_ldcS hx hb hown (hSS.2.1 0 (by decide)) dX5_readClause_5 ?_
  obtain ⟨gB_7, gL_8, gwq_9, geq__10, hv⟩ := hv
  obtain ⟨hp, hv⟩ := hv
  refine x_calliR (x_runV (As := [.ref (kS G 0)]) (rest := []) (n := 1) (C := RX5) (ci := 5) ⟨hx, hb, hml, hown, hts⟩ (k_X5_wordIs l G e0 e01 _ xb xl xf xg xa2_5 xt2_6 xr xn 0 gB_7 gL_8 gwq_9 geq__10 (by decide) hp) gX5_readClause_X5_wordIs rfl (by decide +kernel) ⟨Nat.le_trans (Nat.le_of_ble_eq_true rfl) hRf, Nat.le_trans (Nat.le_of_ble_eq_true rfl) hRl⟩ hKK hSS hS hA hP hD [0, 1] (by decide) rfl rfl rfl 0 rfl rfl hl.1 rfl (Nat.le_of_ble_eq_true rfl) dX5_readClause_7) hP hD hS hA [0, 1] rfl (fun r_11 _ H locs hw hP hS => ?_)
  have hv := hv r_11 hw
  refine lv_if_eq (tgt := 21) hx hb dX5_readClause_10 (by decide) (fun hc_12 => ?_) (fun hc_12 => ?_)
  · have hv := hv.1 hc_12
    refine lv_aload_n hx hb dX5_readClause_21 rfl (lv_at hl 0 rfl) ?_
    refine va_ldcS hx hb hown (hSS.2.1 1 (by decide)) dX5_readClause_22 ?_
    obtain ⟨gB_13, gL_14, gwq_15, geq__16, hv⟩ := hv
    obtain ⟨hp, hv⟩ := hv
    refine x_calliR (x_runV (As := [.ref (kS G 1)]) (rest := []) (n := 1) (C := RX5) (ci := 5) ⟨hx, hb, hml, hown, hts⟩ (k_X5_wordIs l G e0 e01 _ xb xl xf xg xa2_5 xt2_6 xr xn 1 gB_13 gL_14 gwq_15 geq__16 (by decide) hp) gX5_readClause_X5_wordIs rfl (by decide +kernel) ⟨Nat.le_trans (Nat.le_of_ble_eq_true rfl) hRf, Nat.le_trans (Nat.le_of_ble_eq_true rfl) hRl⟩ hKK hSS hS hA hP hD [0, 1] (by decide) rfl rfl rfl 0 rfl rfl hl.1 rfl (Nat.le_of_ble_eq_true rfl) dX5_readClause_24) hP hD hS hA [0, 1] rfl (fun r_17 _ H locs hw hP hS => ?_)
    have hv := hv r_17 hw
    refine lv_if_eq (tgt := 38) hx hb dX5_readClause_27 (by decide) (fun hc_18 => ?_) (fun hc_18 => ?_)
    · have hv := hv.1 hc_18
      refine lv_aload_n hx hb dX5_readClause_38 rfl (lv_at hl 0 rfl) ?_
      refine va_ldcS hx hb hown (hSS.2.1 2 (by decide)) dX5_readClause_39 ?_
      obtain ⟨gB_19, gL_20, gwq_21, geq__22, hv⟩ := hv
      obtain ⟨hp, hv⟩ := hv
      refine x_calliR (x_runV (As := [.ref (kS G 2)]) (rest := []) (n := 1) (C := RX5) (ci := 5) ⟨hx, hb, hml, hown, hts⟩ (k_X5_wordIs l G e0 e01 _ xb xl xf xg xa2_5 xt2_6 xr xn 2 gB_19 gL_20 gwq_21 geq__22 (by decide) hp) gX5_readClause_X5_wordIs rfl (by decide +kernel) ⟨Nat.le_trans (Nat.le_of_ble_eq_true rfl) hRf, Nat.le_trans (Nat.le_of_ble_eq_true rfl) hRl⟩ hKK hSS hS hA hP hD [0, 1] (by decide) rfl rfl rfl 0 rfl rfl hl.1 rfl (Nat.le_of_ble_eq_true rfl) dX5_readClause_41) hP hD hS hA [0, 1] rfl (fun r_23 _ H locs hw hP hS => ?_)
      have hv := hv r_23 hw
      refine lv_if_eq (tgt := 55) hx hb dX5_readClause_44 (by decide) (fun hc_24 => ?_) (fun hc_24 => ?_)
      · have hv := hv.1 hc_24
        refine lv_aload_n hx hb dX5_readClause_55 rfl (lv_at hl 0 rfl) ?_
        refine va_ldcS hx hb hown (hSS.2.1 3 (by decide)) dX5_readClause_56 ?_
        obtain ⟨gB_25, gL_26, gwq_27, geq__28, hv⟩ := hv
        obtain ⟨hp, hv⟩ := hv
        refine x_calliR (x_runV (As := [.ref (kS G 3)]) (rest := []) (n := 1) (C := RX5) (ci := 5) ⟨hx, hb, hml, hown, hts⟩ (k_X5_wordIs l G e0 e01 _ xb xl xf xg xa2_5 xt2_6 xr xn 3 gB_25 gL_26 gwq_27 geq__28 (by decide) hp) gX5_readClause_X5_wordIs rfl (by decide +kernel) ⟨Nat.le_trans (Nat.le_of_ble_eq_true rfl) hRf, Nat.le_trans (Nat.le_of_ble_eq_true rfl) hRl⟩ hKK hSS hS hA hP hD [0, 1] (by decide) rfl rfl rfl 0 rfl rfl hl.1 rfl (Nat.le_of_ble_eq_true rfl) dX5_readClause_58) hP hD hS hA [0, 1] rfl (fun r_29 _ H locs hw hP hS => ?_)
        have hv := hv r_29 hw
        refine lv_if_eq (tgt := 72) hx hb dX5_readClause_61 (by decide) (fun hc_30 => ?_) (fun hc_30 => ?_)
        · have hv := hv.1 hc_30
          refine lv_aload_n hx hb dX5_readClause_72 rfl (lv_at hl 0 rfl) ?_
          refine lv_iconst (v := 1) hx hb dX5_readClause_73 (by decide) ?_
          refine x_callv (wr := [(t, .inr (6, [.int ns, .int np, .int fu, .int fd, .int fi, .ref t1, .ref t2, .ref t3, .ref t4, .ref t5, .ref t6])), aI G t1 9 sz_, aI G t2 9 pt, aI G t3 9 fh, aI G t4 8 kd, aI G t5 8 nd, aI G t6 8 fw]) (w' := fun (u : (Int32) × (Int32)) => [(e0, .inr (5, [.ref e01, .int xl, .int u.2, .int u.1, .int xa2_5, .int xt2_6, .int xr, .int xn])), aB G e01 400 xb, (t, .inr (6, [.int ns, .int np, .int fu, .int fd, .int fi, .ref t1, .ref t2, .ref t3, .ref t4, .ref t5, .ref t6])), aI G t1 9 sz_, aI G t2 9 pt, aI G t3 9 fh, aI G t4 8 kd, aI G t5 8 nd, aI G t6 8 fw]) (x_runV (As := [.int 1]) (rest := []) (n := 1) (C := RX5) (ci := 5) ⟨hx, hb, hml, hown, hts⟩ (k_X5_fail l G e0 e01 _ xb xl xf xg xa2_5 xt2_6 xr xn 1) gX5_readClause_X5_fail rfl (by decide +kernel) ⟨Nat.le_trans (Nat.le_of_ble_eq_true rfl) hRf, Nat.le_trans (Nat.le_of_ble_eq_true rfl) hRl⟩ hKK hSS hS hA hP hD [0, 1] (by decide) rfl rfl rfl 0 rfl rfl hl.1 rfl (Nat.le_of_ble_eq_true rfl) dX5_readClause_74) hP hD hS hA [0, 1] [2, 3, 4, 5, 6, 7, 8] [7, 8, 0, 1, 2, 3, 4, 5, 6] rfl rfl (by decide) (by decide) (by decide) (fun _ => rfl) (fun  u H locs hw hP hD hS => ?_)
          obtain ⟨xg2_32, xf2_33⟩ := u
          obtain ⟨hw0, hw1⟩ := hw
          replace hw0 := hw0.symm; subst hw0
          replace hw1 := hw1.symm; subst hw1
          have hP : va_P G.1 vwCl [(e0, .inr (5, [.ref e01, .int xl, .int (if xg = 0 then xt2_6 else xf), .int (if xg = 0 then 1 else xg), .int xa2_5, .int xt2_6, .int xr, .int xn])), aB G e01 400 xb, (t, .inr (6, [.int ns, .int np, .int fu, .int fd, .int fi, .ref t1, .ref t2, .ref t3, .ref t4, .ref t5, .ref t6])), aI G t1 9 sz_, aI G t2 9 pt, aI G t3 9 fh, aI G t4 8 kd, aI G t5 8 nd, aI G t6 8 fw] H := hP
          have hD : va_D A [(e0, .inr (5, [.ref e01, .int xl, .int (if xg = 0 then xt2_6 else xf), .int (if xg = 0 then 1 else xg), .int xa2_5, .int xt2_6, .int xr, .int xn])), aB G e01 400 xb, (t, .inr (6, [.int ns, .int np, .int fu, .int fd, .int fi, .ref t1, .ref t2, .ref t3, .ref t4, .ref t5, .ref t6])), aI G t1 9 sz_, aI G t2 9 pt, aI G t3 9 fh, aI G t4 8 kd, aI G t5 8 nd, aI G t6 8 fw] := hD
          exact x_vret (xa2_5, xt2_6, (if xg = 0 then 1 else xg), (if xg = 0 then xt2_6 else xf), xr, xn, ns, sz_, pt, fh, np, kd, nd, fw, fu, fd, fi) hQ hx hb hr hlocks hS dX5_readClause_77 hv hP hD
        · have hv := hv.2 hc_30
          refine lv_aload_n hx hb dX5_readClause_64 rfl (lv_at hl 0 rfl) ?_
          refine lv_aload_n hx hb dX5_readClause_65 rfl (lv_at hl 1 rfl) ?_
          obtain ⟨gB_34, gL_35, gaq_36, gwq_37, gtq_38, hv⟩ := hv
          obtain ⟨hp, hv⟩ := hv
          refine x_callv (wr := []) (w' := fun (u : (Int32) × (Int32) × (Int32) × (Int32) × (Int32) × (Int32)) => [(e0, .inr (5, [.ref e01, .int xl, .int u.2.2.2.1, .int u.2.2.1, .int u.1, .int u.2.1, .int xr, .int u.2.2.2.2.1])), aB G e01 400 xb, (t, .inr (6, [.int ns, .int np, .int fu, .int fd, .int u.2.2.2.2.2, .ref t1, .ref t2, .ref t3, .ref t4, .ref t5, .ref t6])), aI G t1 9 sz_, aI G t2 9 pt, aI G t3 9 fh, aI G t4 8 kd, aI G t5 8 nd, aI G t6 8 fw]) (x_runV (As := [.ref t]) (rest := []) (n := 1) (C := RX5) (ci := 5) ⟨hx, hb, hml, hown, hts⟩ (k_X5_readFine l G e0 e01 t t1 t2 t3 t4 t5 t6 _ xb xl xf xg xa2_5 xt2_6 xr xn ns np fu fd fi sz_ pt fh kd nd fw gB_34 gL_35 gaq_36 gwq_37 gtq_38 hp) gX5_readClause_X5_readFine rfl (by decide +kernel) ⟨Nat.le_trans (Nat.le_of_ble_eq_true rfl) hRf, Nat.le_trans (Nat.le_of_ble_eq_true rfl) hRl⟩ hKK hSS hS hA hP hD [0, 1, 2, 3, 4, 5, 6, 7, 8] (by decide) rfl rfl rfl 0 rfl rfl hl.1 rfl (Nat.le_of_ble_eq_true rfl) dX5_readClause_66) hP hD hS hA [0, 1, 2, 3, 4, 5, 6, 7, 8] [] [0, 1, 2, 3, 4, 5, 6, 7, 8] rfl rfl (by decide) (by decide) (by decide) (fun _ => rfl) (fun  u H locs hw hP hD hS => ?_)
          obtain ⟨xa2_40, xt2_41, xg2_42, xf2_43, xn2_44, fi2_45⟩ := u
          have hP : va_P G.1 vwCl [(e0, .inr (5, [.ref e01, .int xl, .int xf2_43, .int xg2_42, .int xa2_40, .int xt2_41, .int xr, .int xn2_44])), aB G e01 400 xb, (t, .inr (6, [.int ns, .int np, .int fu, .int fd, .int fi2_45, .ref t1, .ref t2, .ref t3, .ref t4, .ref t5, .ref t6])), aI G t1 9 sz_, aI G t2 9 pt, aI G t3 9 fh, aI G t4 8 kd, aI G t5 8 nd, aI G t6 8 fw] H := hP
          have hD : va_D A [(e0, .inr (5, [.ref e01, .int xl, .int xf2_43, .int xg2_42, .int xa2_40, .int xt2_41, .int xr, .int xn2_44])), aB G e01 400 xb, (t, .inr (6, [.int ns, .int np, .int fu, .int fd, .int fi2_45, .ref t1, .ref t2, .ref t3, .ref t4, .ref t5, .ref t6])), aI G t1 9 sz_, aI G t2 9 pt, aI G t3 9 fh, aI G t4 8 kd, aI G t5 8 nd, aI G t6 8 fw] := hD
          have hv := hv xa2_40 xt2_41 xg2_42 xf2_43 xn2_44 fi2_45 hw
          refine lv_goto (tgt := 77) hx hb dX5_readClause_69 (by decide) ?_
          exact x_vret (xa2_40, xt2_41, xg2_42, xf2_43, xr, xn2_44, ns, sz_, pt, fh, np, kd, nd, fw, fu, fd, fi2_45) hQ hx hb hr hlocks hS dX5_readClause_77 hv hP hD
      · have hv := hv.2 hc_24
        refine lv_aload_n hx hb dX5_readClause_47 rfl (lv_at hl 0 rfl) ?_
        refine lv_aload_n hx hb dX5_readClause_48 rfl (lv_at hl 1 rfl) ?_
        obtain ⟨gB_46, gL_47, gaq_48, gwq_49, gtq_50, hv⟩ := hv
        obtain ⟨hp, hv⟩ := hv
        refine x_callv (wr := []) (w' := fun (u : (Int32) × (Int32) × (Int32) × (Int32) × (Int32) × (Int32) × (Int32)) => [(e0, .inr (5, [.ref e01, .int xl, .int u.2.2.2.1, .int u.2.2.1, .int u.1, .int u.2.1, .int u.2.2.2.2.1, .int xn])), aB G e01 400 xb, (t, .inr (6, [.int ns, .int np, .int u.2.2.2.2.2.1, .int u.2.2.2.2.2.2, .int fi, .ref t1, .ref t2, .ref t3, .ref t4, .ref t5, .ref t6])), aI G t1 9 sz_, aI G t2 9 pt, aI G t3 9 fh, aI G t4 8 kd, aI G t5 8 nd, aI G t6 8 fw]) (x_runV (As := [.ref t]) (rest := []) (n := 1) (C := RX5) (ci := 5) ⟨hx, hb, hml, hown, hts⟩ (k_X5_readFrost l G e0 e01 t t1 t2 t3 t4 t5 t6 _ xb xl xf xg xa2_5 xt2_6 xr xn ns np fu fd fi sz_ pt fh kd nd fw gB_46 gL_47 gaq_48 gwq_49 gtq_50 hp) gX5_readClause_X5_readFrost rfl (by decide +kernel) ⟨Nat.le_trans (Nat.le_of_ble_eq_true rfl) hRf, Nat.le_trans (Nat.le_of_ble_eq_true rfl) hRl⟩ hKK hSS hS hA hP hD [0, 1, 2, 3, 4, 5, 6, 7, 8] (by decide) rfl rfl rfl 0 rfl rfl hl.1 rfl (Nat.le_of_ble_eq_true rfl) dX5_readClause_49) hP hD hS hA [0, 1, 2, 3, 4, 5, 6, 7, 8] [] [0, 1, 2, 3, 4, 5, 6, 7, 8] rfl rfl (by decide) (by decide) (by decide) (fun _ => rfl) (fun  u H locs hw hP hD hS => ?_)
        obtain ⟨xa2_52, xt2_53, xg2_54, xf2_55, xr2_56, fu2_57, fd2_58⟩ := u
        have hP : va_P G.1 vwCl [(e0, .inr (5, [.ref e01, .int xl, .int xf2_55, .int xg2_54, .int xa2_52, .int xt2_53, .int xr2_56, .int xn])), aB G e01 400 xb, (t, .inr (6, [.int ns, .int np, .int fu2_57, .int fd2_58, .int fi, .ref t1, .ref t2, .ref t3, .ref t4, .ref t5, .ref t6])), aI G t1 9 sz_, aI G t2 9 pt, aI G t3 9 fh, aI G t4 8 kd, aI G t5 8 nd, aI G t6 8 fw] H := hP
        have hD : va_D A [(e0, .inr (5, [.ref e01, .int xl, .int xf2_55, .int xg2_54, .int xa2_52, .int xt2_53, .int xr2_56, .int xn])), aB G e01 400 xb, (t, .inr (6, [.int ns, .int np, .int fu2_57, .int fd2_58, .int fi, .ref t1, .ref t2, .ref t3, .ref t4, .ref t5, .ref t6])), aI G t1 9 sz_, aI G t2 9 pt, aI G t3 9 fh, aI G t4 8 kd, aI G t5 8 nd, aI G t6 8 fw] := hD
        have hv := hv xa2_52 xt2_53 xg2_54 xf2_55 xr2_56 fu2_57 fd2_58 hw
        refine lv_goto (tgt := 77) hx hb dX5_readClause_52 (by decide) ?_
        exact x_vret (xa2_52, xt2_53, xg2_54, xf2_55, xr2_56, xn, ns, sz_, pt, fh, np, kd, nd, fw, fu2_57, fd2_58, fi) hQ hx hb hr hlocks hS dX5_readClause_77 hv hP hD
    · have hv := hv.2 hc_18
      refine lv_aload_n hx hb dX5_readClause_30 rfl (lv_at hl 0 rfl) ?_
      refine lv_aload_n hx hb dX5_readClause_31 rfl (lv_at hl 1 rfl) ?_
      obtain ⟨gB_59, gL_60, gaq_61, gwq_62, gtq_63, hv⟩ := hv
      obtain ⟨hp, hv⟩ := hv
      refine x_callv (wr := []) (w' := fun (u : (Int32) × (Int32) × (Int32) × (Int32) × (Int32) × (Nat → Int32) × (Nat → Int32) × (Nat → Int32)) => [(e0, .inr (5, [.ref e01, .int xl, .int u.2.2.2.1, .int u.2.2.1, .int u.1, .int u.2.1, .int xr, .int xn])), aB G e01 400 xb, (t, .inr (6, [.int ns, .int u.2.2.2.2.1, .int fu, .int fd, .int fi, .ref t1, .ref t2, .ref t3, .ref t4, .ref t5, .ref t6])), aI G t1 9 sz_, aI G t2 9 pt, aI G t3 9 fh, aI G t4 8 u.2.2.2.2.2.1, aI G t5 8 u.2.2.2.2.2.2.1, aI G t6 8 u.2.2.2.2.2.2.2]) (x_runV (As := [.ref t]) (rest := []) (n := 1) (C := RX5) (ci := 5) ⟨hx, hb, hml, hown, hts⟩ (k_X5_readPerson l G e0 e01 t t1 t2 t3 t4 t5 t6 _ xb xl xf xg xa2_5 xt2_6 xr xn ns np fu fd fi sz_ pt fh kd nd fw gB_59 gL_60 gaq_61 gwq_62 gtq_63 hp) gX5_readClause_X5_readPerson rfl (by decide +kernel) ⟨Nat.le_trans (Nat.le_of_ble_eq_true rfl) hRf, Nat.le_trans (Nat.le_of_ble_eq_true rfl) hRl⟩ hKK hSS hS hA hP hD [0, 1, 2, 3, 4, 5, 6, 7, 8] (by decide) rfl rfl rfl 0 rfl rfl hl.1 rfl (Nat.le_of_ble_eq_true rfl) dX5_readClause_32) hP hD hS hA [0, 1, 2, 3, 4, 5, 6, 7, 8] [] [0, 1, 2, 3, 4, 5, 6, 7, 8] rfl rfl (by decide) (by decide) (by decide) (fun _ => rfl) (fun  u H locs hw hP hD hS => ?_)
      obtain ⟨xa2_65, xt2_66, xg2_67, xf2_68, np2_69, kd2_70, nd2_71, fw2_72⟩ := u
      have hP : va_P G.1 vwCl [(e0, .inr (5, [.ref e01, .int xl, .int xf2_68, .int xg2_67, .int xa2_65, .int xt2_66, .int xr, .int xn])), aB G e01 400 xb, (t, .inr (6, [.int ns, .int np2_69, .int fu, .int fd, .int fi, .ref t1, .ref t2, .ref t3, .ref t4, .ref t5, .ref t6])), aI G t1 9 sz_, aI G t2 9 pt, aI G t3 9 fh, aI G t4 8 kd2_70, aI G t5 8 nd2_71, aI G t6 8 fw2_72] H := hP
      have hD : va_D A [(e0, .inr (5, [.ref e01, .int xl, .int xf2_68, .int xg2_67, .int xa2_65, .int xt2_66, .int xr, .int xn])), aB G e01 400 xb, (t, .inr (6, [.int ns, .int np2_69, .int fu, .int fd, .int fi, .ref t1, .ref t2, .ref t3, .ref t4, .ref t5, .ref t6])), aI G t1 9 sz_, aI G t2 9 pt, aI G t3 9 fh, aI G t4 8 kd2_70, aI G t5 8 nd2_71, aI G t6 8 fw2_72] := hD
      have hv := hv xa2_65 xt2_66 xg2_67 xf2_68 np2_69 kd2_70 nd2_71 fw2_72 hw
      refine lv_goto (tgt := 77) hx hb dX5_readClause_35 (by decide) ?_
      exact x_vret (xa2_65, xt2_66, xg2_67, xf2_68, xr, xn, ns, sz_, pt, fh, np2_69, kd2_70, nd2_71, fw2_72, fu, fd, fi) hQ hx hb hr hlocks hS dX5_readClause_77 hv hP hD
  · have hv := hv.2 hc_12
    refine lv_aload_n hx hb dX5_readClause_13 rfl (lv_at hl 0 rfl) ?_
    refine lv_aload_n hx hb dX5_readClause_14 rfl (lv_at hl 1 rfl) ?_
    obtain ⟨gB_73, gL_74, gaq_75, gwq_76, gtq_77, hv⟩ := hv
    obtain ⟨hp, hv⟩ := hv
    refine x_callv (wr := []) (w' := fun (u : (Int32) × (Int32) × (Int32) × (Int32) × (Int32) × (Nat → Int32) × (Nat → Int32) × (Nat → Int32)) => [(e0, .inr (5, [.ref e01, .int xl, .int u.2.2.2.1, .int u.2.2.1, .int u.1, .int u.2.1, .int xr, .int xn])), aB G e01 400 xb, (t, .inr (6, [.int u.2.2.2.2.1, .int np, .int fu, .int fd, .int fi, .ref t1, .ref t2, .ref t3, .ref t4, .ref t5, .ref t6])), aI G t1 9 u.2.2.2.2.2.1, aI G t2 9 u.2.2.2.2.2.2.1, aI G t3 9 u.2.2.2.2.2.2.2, aI G t4 8 kd, aI G t5 8 nd, aI G t6 8 fw]) (x_runV (As := [.ref t]) (rest := []) (n := 1) (C := RX5) (ci := 5) ⟨hx, hb, hml, hown, hts⟩ (k_X5_readStone l G e0 e01 t t1 t2 t3 t4 t5 t6 _ xb xl xf xg xa2_5 xt2_6 xr xn ns np fu fd fi sz_ pt fh kd nd fw gB_73 gL_74 gaq_75 gwq_76 gtq_77 hp) gX5_readClause_X5_readStone rfl (by decide +kernel) ⟨Nat.le_trans (Nat.le_of_ble_eq_true rfl) hRf, Nat.le_trans (Nat.le_of_ble_eq_true rfl) hRl⟩ hKK hSS hS hA hP hD [0, 1, 2, 3, 4, 5, 6, 7, 8] (by decide) rfl rfl rfl 0 rfl rfl hl.1 rfl (Nat.le_of_ble_eq_true rfl) dX5_readClause_15) hP hD hS hA [0, 1, 2, 3, 4, 5, 6, 7, 8] [] [0, 1, 2, 3, 4, 5, 6, 7, 8] rfl rfl (by decide) (by decide) (by decide) (fun _ => rfl) (fun  u H locs hw hP hD hS => ?_)
    obtain ⟨xa2_79, xt2_80, xg2_81, xf2_82, ns2_83, sz2_84, pt2_85, fh2_86⟩ := u
    have hP : va_P G.1 vwCl [(e0, .inr (5, [.ref e01, .int xl, .int xf2_82, .int xg2_81, .int xa2_79, .int xt2_80, .int xr, .int xn])), aB G e01 400 xb, (t, .inr (6, [.int ns2_83, .int np, .int fu, .int fd, .int fi, .ref t1, .ref t2, .ref t3, .ref t4, .ref t5, .ref t6])), aI G t1 9 sz2_84, aI G t2 9 pt2_85, aI G t3 9 fh2_86, aI G t4 8 kd, aI G t5 8 nd, aI G t6 8 fw] H := hP
    have hD : va_D A [(e0, .inr (5, [.ref e01, .int xl, .int xf2_82, .int xg2_81, .int xa2_79, .int xt2_80, .int xr, .int xn])), aB G e01 400 xb, (t, .inr (6, [.int ns2_83, .int np, .int fu, .int fd, .int fi, .ref t1, .ref t2, .ref t3, .ref t4, .ref t5, .ref t6])), aI G t1 9 sz2_84, aI G t2 9 pt2_85, aI G t3 9 fh2_86, aI G t4 8 kd, aI G t5 8 nd, aI G t6 8 fw] := hD
    have hv := hv xa2_79 xt2_80 xg2_81 xf2_82 ns2_83 sz2_84 pt2_85 fh2_86 hw
    refine lv_goto (tgt := 77) hx hb dX5_readClause_18 (by decide) ?_
    exact x_vret (xa2_79, xt2_80, xg2_81, xf2_82, xr, xn, ns2_83, sz2_84, pt2_85, fh2_86, np, kd, nd, fw, fu, fd, fi) hQ hx hb hr hlocks hS dX5_readClause_77 hv hP hD
theorem v_X5_readClause (l : Launch) (G : Gt) (e0 e01 t t1 t2 t3 t4 t5 t6 : Nat) (sz : Nat) (xb : Nat → Int32) (xl : Int32) (xf : Int32) (xg : Int32) (xa : Int32) (xt : Int32) (xr : Int32) (xn : Int32) (ns : Int32) (np : Int32) (fu : Int32) (fd : Int32) (fi : Int32) (sz_ : Nat → Int32) (pt : Nat → Int32) (fh : Nat → Int32) (kd : Nat → Int32) (nd : Nat → Int32) (fw : Nat → Int32) (B : Nat → Int) (L : Nat) (aq : Nat) (tq : PTn) (hp : CX B L xb xl ∧ CP L (.inr (aq, tq)) xg xf xa xr xn ns np fu fd fi sz_ pt fh kd nd fw ∧ tq.1 ≤ 9 ∧ tq.2.1 ≤ 8) : ∃ (gB_1 : Nat → Int) (gL_2 : Nat) (gaq_3 : Nat), ((CX gB_1 gL_2 xb xl ∧ xa = nI gaq_3 ∧ gaq_3 ≤ gL_2) ∧ (∀ (xa2_5 : Int32) (xt2_6 : Int32), (xt2_6 = nI (sk gB_1 gL_2 gaq_3) ∧ xa2_5 = nI (wE gB_1 gL_2 (sk gB_1 gL_2 gaq_3))) → (∃ (gB_7 : Nat → Int) (gL_8 : Nat) (gwq_9 : Nat) (geq__10 : Nat), ((CX gB_7 gL_8 xb xl ∧ xt2_6 = nI gwq_9 ∧ xa2_5 = nI geq__10 ∧ gwq_9 ≤ geq__10 ∧ geq__10 ≤ gL_8) ∧ (∀ (r_11 : Int32), (r_11 = (if wIs gB_7 gwq_9 geq__10 0 = true then 1 else 0)) → ((r_11 = 0 → ∃ (gB_13 : Nat → Int) (gL_14 : Nat) (gwq_15 : Nat) (geq__16 : Nat), ((CX gB_13 gL_14 xb xl ∧ xt2_6 = nI gwq_15 ∧ xa2_5 = nI geq__16 ∧ gwq_15 ≤ geq__16 ∧ geq__16 ≤ gL_14) ∧ (∀ (r_17 : Int32), (r_17 = (if wIs gB_13 gwq_15 geq__16 1 = true then 1 else 0)) → ((r_17 = 0 → ∃ (gB_19 : Nat → Int) (gL_20 : Nat) (gwq_21 : Nat) (geq__22 : Nat), ((CX gB_19 gL_20 xb xl ∧ xt2_6 = nI gwq_21 ∧ xa2_5 = nI geq__22 ∧ gwq_21 ≤ geq__22 ∧ geq__22 ≤ gL_20) ∧ (∀ (r_23 : Int32), (r_23 = (if wIs gB_19 gwq_21 geq__22 2 = true then 1 else 0)) → ((r_23 = 0 → ∃ (gB_25 : Nat → Int) (gL_26 : Nat) (gwq_27 : Nat) (geq__28 : Nat), ((CX gB_25 gL_26 xb xl ∧ xt2_6 = nI gwq_27 ∧ xa2_5 = nI geq__28 ∧ gwq_27 ≤ geq__28 ∧ geq__28 ≤ gL_26) ∧ (∀ (r_29 : Int32), (r_29 = (if wIs gB_25 gwq_27 geq__28 3 = true then 1 else 0)) → ((r_29 = 0 → CP L (clR B L aq tq) (if xg = 0 then 1 else xg) (if xg = 0 then xt2_6 else xf) xa2_5 xr xn ns np fu fd fi sz_ pt fh kd nd fw) ∧ (¬ (r_29 = 0) → ∃ (gB_34 : Nat → Int) (gL_35 : Nat) (gaq_36 : Nat) (gwq_37 : Nat) (gtq_38 : PTn), ((CX gB_34 gL_35 xb xl ∧ CSo gL_35 gaq_36 xg xf xa2_5 ∧ xt2_6 = nI gwq_37 ∧ CW gtq_38 ns np fu fd fi sz_ pt fh kd nd fw ∧ xr = flg gtq_38.2.2.2.1 ∧ xn = flg gtq_38.2.2.2.2 ∧ gtq_38.1 ≤ 9 ∧ gtq_38.2.1 ≤ 8) ∧ (∀ (xa2_40 : Int32) (xt2_41 : Int32) (xg2_42 : Int32) (xf2_43 : Int32) (xn2_44 : Int32) (fi2_45 : Int32), (CP gL_35 (smc gB_34 gL_35 (fiC gB_34 gL_35 gwq_37 gaq_36 gtq_38)) xg2_42 xf2_43 xa2_40 xr xn2_44 ns np fu fd fi2_45 sz_ pt fh kd nd fw) → (CP L (clR B L aq tq) xg2_42 xf2_43 xa2_40 xr xn2_44 ns np fu fd fi2_45 sz_ pt fh kd nd fw)))))))) ∧ (¬ (r_23 = 0) → ∃ (gB_46 : Nat → Int) (gL_47 : Nat) (gaq_48 : Nat) (gwq_49 : Nat) (gtq_50 : PTn), ((CX gB_46 gL_47 xb xl ∧ CSo gL_47 gaq_48 xg xf xa2_5 ∧ xt2_6 = nI gwq_49 ∧ CW gtq_50 ns np fu fd fi sz_ pt fh kd nd fw ∧ xr = flg gtq_50.2.2.2.1 ∧ xn = flg gtq_50.2.2.2.2 ∧ gtq_50.1 ≤ 9 ∧ gtq_50.2.1 ≤ 8) ∧ (∀ (xa2_52 : Int32) (xt2_53 : Int32) (xg2_54 : Int32) (xf2_55 : Int32) (xr2_56 : Int32) (fu2_57 : Int32) (fd2_58 : Int32), (CP gL_47 (smc gB_46 gL_47 (frC gB_46 gL_47 gwq_49 gaq_48 gtq_50)) xg2_54 xf2_55 xa2_52 xr2_56 xn ns np fu2_57 fd2_58 fi sz_ pt fh kd nd fw) → (CP L (clR B L aq tq) xg2_54 xf2_55 xa2_52 xr2_56 xn ns np fu2_57 fd2_58 fi sz_ pt fh kd nd fw)))))))) ∧ (¬ (r_17 = 0) → ∃ (gB_59 : Nat → Int) (gL_60 : Nat) (gaq_61 : Nat) (gwq_62 : Nat) (gtq_63 : PTn), ((CX gB_59 gL_60 xb xl ∧ CSo gL_60 gaq_61 xg xf xa2_5 ∧ xt2_6 = nI gwq_62 ∧ CW gtq_63 ns np fu fd fi sz_ pt fh kd nd fw ∧ xr = flg gtq_63.2.2.2.1 ∧ xn = flg gtq_63.2.2.2.2 ∧ gtq_63.1 ≤ 9 ∧ gtq_63.2.1 ≤ 8) ∧ (∀ (xa2_65 : Int32) (xt2_66 : Int32) (xg2_67 : Int32) (xf2_68 : Int32) (np2_69 : Int32) (kd2_70 : Nat → Int32) (nd2_71 : Nat → Int32) (fw2_72 : Nat → Int32), (CP gL_60 (smc gB_59 gL_60 (peC gB_59 gL_60 gwq_62 gaq_61 gtq_63)) xg2_67 xf2_68 xa2_65 xr xn ns np2_69 fu fd fi sz_ pt fh kd2_70 nd2_71 fw2_72) → (CP L (clR B L aq tq) xg2_67 xf2_68 xa2_65 xr xn ns np2_69 fu fd fi sz_ pt fh kd2_70 nd2_71 fw2_72)))))))) ∧ (¬ (r_11 = 0) → ∃ (gB_73 : Nat → Int) (gL_74 : Nat) (gaq_75 : Nat) (gwq_76 : Nat) (gtq_77 : PTn), ((CX gB_73 gL_74 xb xl ∧ CSo gL_74 gaq_75 xg xf xa2_5 ∧ xt2_6 = nI gwq_76 ∧ CW gtq_77 ns np fu fd fi sz_ pt fh kd nd fw ∧ xr = flg gtq_77.2.2.2.1 ∧ xn = flg gtq_77.2.2.2.2 ∧ gtq_77.1 ≤ 9 ∧ gtq_77.2.1 ≤ 8) ∧ (∀ (xa2_79 : Int32) (xt2_80 : Int32) (xg2_81 : Int32) (xf2_82 : Int32) (ns2_83 : Int32) (sz2_84 : Nat → Int32) (pt2_85 : Nat → Int32) (fh2_86 : Nat → Int32), (CP gL_74 (smc gB_73 gL_74 (stC gB_73 gL_74 gwq_76 gaq_75 gtq_77)) xg2_81 xf2_82 xa2_79 xr xn ns2_83 np fu fd fi sz2_84 pt2_85 fh2_86 kd nd fw) → (CP L (clR B L aq tq) xg2_81 xf2_82 xa2_79 xr xn ns2_83 np fu fd fi sz2_84 pt2_85 fh2_86 kd nd fw)))))))))) := by
  obtain ⟨hX, ⟨⟨ha, rfl, rfl, rfl⟩, hW, rfl, rfl⟩, h9, h8⟩ := hp
  have hL := hX.1
  have hxl := hX.2.1
  have hs := sk_L (B := B) ha
  have hw := wE_L (B := B) hs
  refine ⟨B, L, aq, ⟨hX, rfl, ha⟩, fun e w h => ?_⟩
  obtain ⟨rfl, rfl⟩ := h
  refine ⟨B, L, sk B L aq, wE B L (sk B L aq), ⟨hX, rfl, rfl, wE_le, hw⟩, fun r hr => ?_⟩
  subst hr
  rw [tv_eq, Classical.not_not]
  refine ⟨fun h0 => ?_, fun h0 => ⟨B, L, wE B L (sk B L aq), sk B L aq, tq, ⟨hX, ⟨hw, rfl, rfl, rfl⟩, rfl, hW, rfl, rfl, h9, h8⟩, fun _ _ _ _ _ _ _ _ h => ?_⟩⟩
  rotate_left
  · unfold clR clN
    rw [if_pos h0]
    exact h
  refine ⟨B, L, sk B L aq, wE B L (sk B L aq), ⟨hX, rfl, rfl, wE_le, hw⟩, fun r hr => ?_⟩
  subst hr
  rw [tv_eq, Classical.not_not]
  refine ⟨fun h1 => ?_, fun h1 => ⟨B, L, wE B L (sk B L aq), sk B L aq, tq, ⟨hX, ⟨hw, rfl, rfl, rfl⟩, rfl, hW, rfl, rfl, h9, h8⟩, fun _ _ _ _ _ _ _ _ h => ?_⟩⟩
  rotate_left
  · unfold clR clN
    rw [if_neg h0, if_pos h1]
    exact h
  refine ⟨B, L, sk B L aq, wE B L (sk B L aq), ⟨hX, rfl, rfl, wE_le, hw⟩, fun r hr => ?_⟩
  subst hr
  rw [tv_eq, Classical.not_not]
  refine ⟨fun h2 => ?_, fun h2 => ⟨B, L, wE B L (sk B L aq), sk B L aq, tq, ⟨hX, ⟨hw, rfl, rfl, rfl⟩, rfl, hW, rfl, rfl, h9, h8⟩, fun _ _ _ _ _ _ _ h => ?_⟩⟩
  rotate_left
  · unfold clR clN
    rw [if_neg h0, if_neg h1, if_pos h2]
    exact h
  refine ⟨B, L, sk B L aq, wE B L (sk B L aq), ⟨hX, rfl, rfl, wE_le, hw⟩, fun r hr => ?_⟩
  subst hr
  rw [tv_eq, Classical.not_not]
  refine ⟨fun h3 => ?_, fun h3 => ⟨B, L, wE B L (sk B L aq), sk B L aq, tq, ⟨hX, ⟨hw, rfl, rfl, rfl⟩, rfl, hW, rfl, rfl, h9, h8⟩, fun _ _ _ _ _ _ h => ?_⟩⟩
  rotate_left
  · unfold clR clN
    rw [if_neg h0, if_neg h1, if_neg h2, if_pos h3]
    exact h
  simp only [if_true]
  unfold clR clN
  rw [if_neg h0, if_neg h1, if_neg h2, if_neg h3]
  exact CSf.mk (f := 1) (by decide) (by decide) hw
theorem k_X5_readClause (l : Launch) (G : Gt) (e0 e01 t t1 t2 t3 t4 t5 t6 : Nat) (sz : Nat) (xb : Nat → Int32) (xl : Int32) (xf : Int32) (xg : Int32) (xa : Int32) (xt : Int32) (xr : Int32) (xn : Int32) (ns : Int32) (np : Int32) (fu : Int32) (fd : Int32) (fi : Int32) (sz_ : Nat → Int32) (pt : Nat → Int32) (fh : Nat → Int32) (kd : Nat → Int32) (nd : Nat → Int32) (fw : Nat → Int32) (B : Nat → Int) (L : Nat) (aq : Nat) (tq : PTn) (hp : CX B L xb xl ∧ CP L (.inr (aq, tq)) xg xf xa xr xn ns np fu fd fi sz_ pt fh kd nd fw ∧ tq.1 ≤ 9 ∧ tq.2.1 ≤ 8) : MetV l yX5_readClause wsX5_readClause 7 151 G [.ref e0, .ref t] [(e0, .inr (5, [.ref e01, .int xl, .int xf, .int xg, .int xa, .int xt, .int xr, .int xn])), aB G e01 400 xb, (t, .inr (6, [.int ns, .int np, .int fu, .int fd, .int fi, .ref t1, .ref t2, .ref t3, .ref t4, .ref t5, .ref t6])), aI G t1 9 sz_, aI G t2 9 pt, aI G t3 9 fh, aI G t4 8 kd, aI G t5 8 nd, aI G t6 8 fw] sz (fun (u : (Int32) × (Int32) × (Int32) × (Int32) × (Int32) × (Int32) × (Int32) × (Nat → Int32) × (Nat → Int32) × (Nat → Int32) × (Int32) × (Nat → Int32) × (Nat → Int32) × (Nat → Int32) × (Int32) × (Int32) × (Int32)) => CP L (clR B L aq tq) u.2.2.1 u.2.2.2.1 u.1 u.2.2.2.2.1 u.2.2.2.2.2.1 u.2.2.2.2.2.2.1 u.2.2.2.2.2.2.2.2.2.2.1 u.2.2.2.2.2.2.2.2.2.2.2.2.2.2.1 u.2.2.2.2.2.2.2.2.2.2.2.2.2.2.2.1 u.2.2.2.2.2.2.2.2.2.2.2.2.2.2.2.2 u.2.2.2.2.2.2.2.1 u.2.2.2.2.2.2.2.2.1 u.2.2.2.2.2.2.2.2.2.1 u.2.2.2.2.2.2.2.2.2.2.2.1 u.2.2.2.2.2.2.2.2.2.2.2.2.1 u.2.2.2.2.2.2.2.2.2.2.2.2.2.1) (fun (u : (Int32) × (Int32) × (Int32) × (Int32) × (Int32) × (Int32) × (Int32) × (Nat → Int32) × (Nat → Int32) × (Nat → Int32) × (Int32) × (Nat → Int32) × (Nat → Int32) × (Nat → Int32) × (Int32) × (Int32) × (Int32)) => [(e0, .inr (5, [.ref e01, .int xl, .int u.2.2.2.1, .int u.2.2.1, .int u.1, .int u.2.1, .int u.2.2.2.2.1, .int u.2.2.2.2.2.1])), aB G e01 400 xb, (t, .inr (6, [.int u.2.2.2.2.2.2.1, .int u.2.2.2.2.2.2.2.2.2.2.1, .int u.2.2.2.2.2.2.2.2.2.2.2.2.2.2.1, .int u.2.2.2.2.2.2.2.2.2.2.2.2.2.2.2.1, .int u.2.2.2.2.2.2.2.2.2.2.2.2.2.2.2.2, .ref t1, .ref t2, .ref t3, .ref t4, .ref t5, .ref t6])), aI G t1 9 u.2.2.2.2.2.2.2.1, aI G t2 9 u.2.2.2.2.2.2.2.2.1, aI G t3 9 u.2.2.2.2.2.2.2.2.2.1, aI G t4 8 u.2.2.2.2.2.2.2.2.2.2.2.1, aI G t5 8 u.2.2.2.2.2.2.2.2.2.2.2.2.1, aI G t6 8 u.2.2.2.2.2.2.2.2.2.2.2.2.2.1]) :=
  c_X5_readClause l G e0 e01 t t1 t2 t3 t4 t5 t6 sz xb xl xf xg xa xt xr xn ns np fu fd fi sz_ pt fh kd nd fw B L aq tq (v_X5_readClause l G e0 e01 t t1 t2 t3 t4 t5 t6 sz xb xl xf xg xa xt xr xn ns np fu fd fi sz_ pt fh kd nd fw B L aq tq hp)

set_option maxHeartbeats 4000000 in
set_option maxRecDepth 100000 in
theorem c_X5_readInto (l : Launch) (G : Gt) (e0 e01 t t1 t2 t3 t4 t5 t6 : Nat) (sz : Nat) (xb : Nat → Int32) (xl : Int32) (xf : Int32) (xg : Int32) (xa : Int32) (xt : Int32) (xr : Int32) (xn : Int32) (ns : Int32) (np : Int32) (fu : Int32) (fd : Int32) (fi : Int32) (sz_ : Nat → Int32) (pt : Nat → Int32) (fh : Nat → Int32) (kd : Nat → Int32) (nd : Nat → Int32) (fw : Nat → Int32) (B : Nat → Int) (L : Nat) (hv : ∃ (I31_25 : (Nat → Int32) → (Nat → Int32) → (Nat → Int32) → (Nat → Int32) → (Nat → Int32) → (Nat → Int32) → Int32 → Int32 → Int32 → Int32 → Int32 → Int32 → Int32 → Int32 → Int32 → Int32 → Int32 → Int32 → Prop) (μ31_26 : (Nat → Int32) → (Nat → Int32) → (Nat → Int32) → (Nat → Int32) → (Nat → Int32) → (Nat → Int32) → Int32 → Int32 → Int32 → Int32 → Int32 → Int32 → Int32 → Int32 → Int32 → Int32 → Int32 → Int32 → Nat), I31_25 sz_ pt fh kd nd fw (-1) 0 0 xt 0 0 0 0 3 1 0 0 ∧ (∀ (ft1_7 : (Nat → Int32)) (ft2_8 : (Nat → Int32)) (ft3_9 : (Nat → Int32)) (ft4_10 : (Nat → Int32)) (ft5_11 : (Nat → Int32)) (ft6_12 : (Nat → Int32)) (ge02_13 : Int32) (ge03_14 : Int32) (ge04_15 : Int32) (ge05_16 : Int32) (ge06_17 : Int32) (ge07_18 : Int32) (gt0_19 : Int32) (gt1_20 : Int32) (gt2_21 : Int32) (gt3_22 : Int32) (gt4_23 : Int32) (x2_24 : Int32), I31_25 ft1_7 ft2_8 ft3_9 ft4_10 ft5_11 ft6_12 ge02_13 ge03_14 ge04_15 ge05_16 ge06_17 ge07_18 gt0_19 gt1_20 gt2_21 gt3_22 gt4_23 x2_24 → (400 ≤ x2_24 → (0 : Int32) = 0 ∧ CI (paT B L) ge03_14 ge02_13 gt0_19 gt1_20 gt2_21 gt3_22 gt4_23 ft1_7 ft2_8 ft3_9 ft4_10 ft5_11 ft6_12) ∧ (¬ (400 ≤ x2_24) → ∃ (gB_30 : Nat → Int) (gL_31 : Nat) (gaq_32 : Nat), ((CX gB_30 gL_31 xb xl ∧ ge04_15 = nI gaq_32 ∧ gaq_32 ≤ gL_31) ∧ (∀ (r_33 : Int32) (xa2_34 : Int32), (r_33 = (if ge03_14 = 0 ∧ sk gB_30 gL_31 gaq_32 < gL_31 then 1 else 0) ∧ xa2_34 = nI (sk gB_30 gL_31 gaq_32)) → ((r_33 = 0 → (0 : Int32) = 0 ∧ CI (paT B L) ge03_14 ge02_13 gt0_19 gt1_20 gt2_21 gt3_22 gt4_23 ft1_7 ft2_8 ft3_9 ft4_10 ft5_11 ft6_12) ∧ (¬ (r_33 = 0) → ∃ (gB_36 : Nat → Int) (gL_37 : Nat) (gaq_38 : Nat) (gtq_39 : PTn), ((CX gB_36 gL_37 xb xl ∧ CP gL_37 (.inr (gaq_38, gtq_39)) ge03_14 ge02_13 xa2_34 ge06_17 ge07_18 gt0_19 gt1_20 gt2_21 gt3_22 gt4_23 ft1_7 ft2_8 ft3_9 ft4_10 ft5_11 ft6_12 ∧ gtq_39.1 ≤ 9 ∧ gtq_39.2.1 ≤ 8) ∧ (∀ (xa2_41 : Int32) (xt2_42 : Int32) (xg2_43 : Int32) (xf2_44 : Int32) (xr2_45 : Int32) (xn2_46 : Int32) (ns2_47 : Int32) (sz2_48 : Nat → Int32) (pt2_49 : Nat → Int32) (fh2_50 : Nat → Int32) (np2_51 : Int32) (kd2_52 : Nat → Int32) (nd2_53 : Nat → Int32) (fw2_54 : Nat → Int32) (fu2_55 : Int32) (fd2_56 : Int32) (fi2_57 : Int32), (CP gL_37 (clR gB_36 gL_37 gaq_38 gtq_39) xg2_43 xf2_44 xa2_41 xr2_45 xn2_46 ns2_47 np2_51 fu2_55 fd2_56 fi2_57 sz2_48 pt2_49 fh2_50 kd2_52 nd2_53 fw2_54) → (I31_25 sz2_48 pt2_49 fh2_50 kd2_52 nd2_53 fw2_54 xf2_44 xg2_43 xa2_41 xt2_42 xr2_45 xn2_46 ns2_47 np2_51 fu2_55 fd2_56 fi2_57 (x2_24 + 1) ∧ μ31_26 sz2_48 pt2_49 fh2_50 kd2_52 nd2_53 fw2_54 xf2_44 xg2_43 xa2_41 xt2_42 xr2_45 xn2_46 ns2_47 np2_51 fu2_55 fd2_56 fi2_57 (x2_24 + 1) < μ31_26 ft1_7 ft2_8 ft3_9 ft4_10 ft5_11 ft6_12 ge02_13 ge03_14 ge04_15 ge05_16 ge06_17 ge07_18 gt0_19 gt1_20 gt2_21 gt3_22 gt4_23 x2_24)))))))))) : MetI l yX5_readInto wsX5_readInto 8 172 G [.ref e0, .ref t] [(e0, .inr (5, [.ref e01, .int xl, .int xf, .int xg, .int xa, .int xt, .int xr, .int xn])), aB G e01 400 xb, (t, .inr (6, [.int ns, .int np, .int fu, .int fd, .int fi, .ref t1, .ref t2, .ref t3, .ref t4, .ref t5, .ref t6])), aI G t1 9 sz_, aI G t2 9 pt, aI G t3 9 fh, aI G t4 8 kd, aI G t5 8 nd, aI G t6 8 fw] sz (fun (r : Int32) (u : (Int32) × (Int32) × (Int32) × (Int32) × (Int32) × (Int32) × (Int32) × (Int32) × (Nat → Int32) × (Nat → Int32) × (Nat → Int32) × (Int32) × (Nat → Int32) × (Nat → Int32) × (Nat → Int32) × (Int32) × (Int32) × (Int32)) => u.1 = 0 ∧ CI (paT B L) r u.2.2.2.2.1 u.2.2.2.2.2.2.2.1 u.2.2.2.2.2.2.2.2.2.2.2.1 u.2.2.2.2.2.2.2.2.2.2.2.2.2.2.2.1 u.2.2.2.2.2.2.2.2.2.2.2.2.2.2.2.2.1 u.2.2.2.2.2.2.2.2.2.2.2.2.2.2.2.2.2 u.2.2.2.2.2.2.2.2.1 u.2.2.2.2.2.2.2.2.2.1 u.2.2.2.2.2.2.2.2.2.2.1 u.2.2.2.2.2.2.2.2.2.2.2.2.1 u.2.2.2.2.2.2.2.2.2.2.2.2.2.1 u.2.2.2.2.2.2.2.2.2.2.2.2.2.2.1) (fun (u : (Int32) × (Int32) × (Int32) × (Int32) × (Int32) × (Int32) × (Int32) × (Int32) × (Nat → Int32) × (Nat → Int32) × (Nat → Int32) × (Int32) × (Nat → Int32) × (Nat → Int32) × (Nat → Int32) × (Int32) × (Int32) × (Int32)) => [(e0, .inr (5, [.ref e01, .int u.1, .int u.2.2.2.2.1, .int u.2.2.2.1, .int u.2.1, .int u.2.2.1, .int u.2.2.2.2.2.1, .int u.2.2.2.2.2.2.1])), aB G e01 400 xb, (t, .inr (6, [.int u.2.2.2.2.2.2.2.1, .int u.2.2.2.2.2.2.2.2.2.2.2.1, .int u.2.2.2.2.2.2.2.2.2.2.2.2.2.2.2.1, .int u.2.2.2.2.2.2.2.2.2.2.2.2.2.2.2.2.1, .int u.2.2.2.2.2.2.2.2.2.2.2.2.2.2.2.2.2, .ref t1, .ref t2, .ref t3, .ref t4, .ref t5, .ref t6])), aI G t1 9 u.2.2.2.2.2.2.2.2.1, aI G t2 9 u.2.2.2.2.2.2.2.2.2.1, aI G t3 9 u.2.2.2.2.2.2.2.2.2.2.1, aI G t4 8 u.2.2.2.2.2.2.2.2.2.2.2.2.1, aI G t5 8 u.2.2.2.2.2.2.2.2.2.2.2.2.2.1, aI G t6 8 u.2.2.2.2.2.2.2.2.2.2.2.2.2.2.1]) := by
  refine x_startI (cc := cX5_readInto) (maxL := 3) (ret := (some .int)) (by decide) rfl (Nat.le_of_ble_eq_true rfl) ?_
  intro p e s m args below meth c A R Q ls hRf hRl hQ C hP hD hS hA hSS hl
  obtain ⟨hx, hb, hr, hml, hown, hts, hlocks, hKK⟩ := C
  have hown : s.vm.findClass RX5 = some m.cls := hown
  have hl : lv_has ls 3 [(0, .ref e0), (1, .ref t)] := hl
  have hinX5 : ∀ w ∈ u_ws RX5 TX5 8, w ∈ wsX5_readInto := by decide +kernel
  have kl15 := hts (.fieldLink RX5 15 "WarmStones$Text" "faultByte" "I") (by decide +kernel)
  have kl19 := hts (.fieldLink RX5 19 "WarmStones$Text" "length" "I") (by decide +kernel)
  have kl22 := hts (.fieldLink RX5 22 "WarmStones$Text" "at" "I") (by decide +kernel)
  have kl25 := hts (.fieldLink RX5 25 "WarmStones$Text" "fault" "I") (by decide +kernel)
  have kl28 := hts (.fieldLink RX5 28 "WarmStones$Text" "frostTold" "Z") (by decide +kernel)
  have kl32 := hts (.fieldLink RX5 32 "WarmStones$Text" "fineTold" "Z") (by decide +kernel)
  refine lv_aload_n hx hb dX5_readInto_0 rfl (lv_at hl 0 rfl) ?_
  refine lv_iconst (v := 0) hx hb dX5_readInto_1 (by decide) ?_
  refine va_put (D := G.1) (ci := 5) (v := .int 0) (ty := .int) (C := RX5) (T := TX5) (N := 8) hx hb hts hinX5 tyX5 tyX5_ok nmX5 hown hKK.1 hP hD hS 0 rfl rfl 4 (by decide) kl22 (fun _ h9 => h9) rfl (by decide +kernel) rfl rfl (Nat.le_of_ble_eq_true rfl) dX5_readInto_2 (fun H locs hP hD hS => ?_)
  have hP : va_P G.1 vwCl [(e0, .inr (5, [.ref e01, .int xl, .int xf, .int xg, .int 0, .int xt, .int xr, .int xn])), aB G e01 400 xb, (t, .inr (6, [.int ns, .int np, .int fu, .int fd, .int fi, .ref t1, .ref t2, .ref t3, .ref t4, .ref t5, .ref t6])), aI G t1 9 sz_, aI G t2 9 pt, aI G t3 9 fh, aI G t4 8 kd, aI G t5 8 nd, aI G t6 8 fw] H := hP
  have hD : va_D A [(e0, .inr (5, [.ref e01, .int xl, .int xf, .int xg, .int 0, .int xt, .int xr, .int xn])), aB G e01 400 xb, (t, .inr (6, [.int ns, .int np, .int fu, .int fd, .int fi, .ref t1, .ref t2, .ref t3, .ref t4, .ref t5, .ref t6])), aI G t1 9 sz_, aI G t2 9 pt, aI G t3 9 fh, aI G t4 8 kd, aI G t5 8 nd, aI G t6 8 fw] := hD
  refine lv_aload_n hx hb dX5_readInto_5 rfl (lv_at hl 0 rfl) ?_
  refine lv_iconst (v := 0) hx hb dX5_readInto_6 (by decide) ?_
  refine va_put (D := G.1) (ci := 5) (v := .int 0) (ty := .int) (C := RX5) (T := TX5) (N := 8) hx hb hts hinX5 tyX5 tyX5_ok nmX5 hown hKK.1 hP hD hS 0 rfl rfl 3 (by decide) kl25 (fun _ h9 => h9) rfl (by decide +kernel) rfl rfl (Nat.le_of_ble_eq_true rfl) dX5_readInto_7 (fun H locs hP hD hS => ?_)
  have hP : va_P G.1 vwCl [(e0, .inr (5, [.ref e01, .int xl, .int xf, .int 0, .int 0, .int xt, .int xr, .int xn])), aB G e01 400 xb, (t, .inr (6, [.int ns, .int np, .int fu, .int fd, .int fi, .ref t1, .ref t2, .ref t3, .ref t4, .ref t5, .ref t6])), aI G t1 9 sz_, aI G t2 9 pt, aI G t3 9 fh, aI G t4 8 kd, aI G t5 8 nd, aI G t6 8 fw] H := hP
  have hD : va_D A [(e0, .inr (5, [.ref e01, .int xl, .int xf, .int 0, .int 0, .int xt, .int xr, .int xn])), aB G e01 400 xb, (t, .inr (6, [.int ns, .int np, .int fu, .int fd, .int fi, .ref t1, .ref t2, .ref t3, .ref t4, .ref t5, .ref t6])), aI G t1 9 sz_, aI G t2 9 pt, aI G t3 9 fh, aI G t4 8 kd, aI G t5 8 nd, aI G t6 8 fw] := hD
  refine lv_aload_n hx hb dX5_readInto_10 rfl (lv_at hl 0 rfl) ?_
  refine lv_iconst (v := (-1)) hx hb dX5_readInto_11 (by decide) ?_
  refine va_put (D := G.1) (ci := 5) (v := .int (-1)) (ty := .int) (C := RX5) (T := TX5) (N := 8) hx hb hts hinX5 tyX5 tyX5_ok nmX5 hown hKK.1 hP hD hS 0 rfl rfl 2 (by decide) kl15 (fun _ h9 => h9) rfl (by decide +kernel) rfl rfl (Nat.le_of_ble_eq_true rfl) dX5_readInto_12 (fun H locs hP hD hS => ?_)
  have hP : va_P G.1 vwCl [(e0, .inr (5, [.ref e01, .int xl, .int (-1), .int 0, .int 0, .int xt, .int xr, .int xn])), aB G e01 400 xb, (t, .inr (6, [.int ns, .int np, .int fu, .int fd, .int fi, .ref t1, .ref t2, .ref t3, .ref t4, .ref t5, .ref t6])), aI G t1 9 sz_, aI G t2 9 pt, aI G t3 9 fh, aI G t4 8 kd, aI G t5 8 nd, aI G t6 8 fw] H := hP
  have hD : va_D A [(e0, .inr (5, [.ref e01, .int xl, .int (-1), .int 0, .int 0, .int xt, .int xr, .int xn])), aB G e01 400 xb, (t, .inr (6, [.int ns, .int np, .int fu, .int fd, .int fi, .ref t1, .ref t2, .ref t3, .ref t4, .ref t5, .ref t6])), aI G t1 9 sz_, aI G t2 9 pt, aI G t3 9 fh, aI G t4 8 kd, aI G t5 8 nd, aI G t6 8 fw] := hD
  refine lv_aload_n hx hb dX5_readInto_15 rfl (lv_at hl 0 rfl) ?_
  refine lv_iconst (v := 0) hx hb dX5_readInto_16 (by decide) ?_
  refine va_put (D := G.1) (ci := 5) (v := .int 0) (ty := .boolean) (C := RX5) (T := TX5) (N := 8) hx hb hts hinX5 tyX5 tyX5_ok nmX5 hown hKK.1 hP hD hS 0 rfl rfl 6 (by decide) kl28 (fun _ h9 => h9) rfl (by decide +kernel) rfl rfl (Nat.le_of_ble_eq_true rfl) dX5_readInto_17 (fun H locs hP hD hS => ?_)
  have hP : va_P G.1 vwCl [(e0, .inr (5, [.ref e01, .int xl, .int (-1), .int 0, .int 0, .int xt, .int 0, .int xn])), aB G e01 400 xb, (t, .inr (6, [.int ns, .int np, .int fu, .int fd, .int fi, .ref t1, .ref t2, .ref t3, .ref t4, .ref t5, .ref t6])), aI G t1 9 sz_, aI G t2 9 pt, aI G t3 9 fh, aI G t4 8 kd, aI G t5 8 nd, aI G t6 8 fw] H := hP
  have hD : va_D A [(e0, .inr (5, [.ref e01, .int xl, .int (-1), .int 0, .int 0, .int xt, .int 0, .int xn])), aB G e01 400 xb, (t, .inr (6, [.int ns, .int np, .int fu, .int fd, .int fi, .ref t1, .ref t2, .ref t3, .ref t4, .ref t5, .ref t6])), aI G t1 9 sz_, aI G t2 9 pt, aI G t3 9 fh, aI G t4 8 kd, aI G t5 8 nd, aI G t6 8 fw] := hD
  refine lv_aload_n hx hb dX5_readInto_20 rfl (lv_at hl 0 rfl) ?_
  refine lv_iconst (v := 0) hx hb dX5_readInto_21 (by decide) ?_
  refine va_put (D := G.1) (ci := 5) (v := .int 0) (ty := .boolean) (C := RX5) (T := TX5) (N := 8) hx hb hts hinX5 tyX5 tyX5_ok nmX5 hown hKK.1 hP hD hS 0 rfl rfl 7 (by decide) kl32 (fun _ h9 => h9) rfl (by decide +kernel) rfl rfl (Nat.le_of_ble_eq_true rfl) dX5_readInto_22 (fun H locs hP hD hS => ?_)
  have hP : va_P G.1 vwCl [(e0, .inr (5, [.ref e01, .int xl, .int (-1), .int 0, .int 0, .int xt, .int 0, .int 0])), aB G e01 400 xb, (t, .inr (6, [.int ns, .int np, .int fu, .int fd, .int fi, .ref t1, .ref t2, .ref t3, .ref t4, .ref t5, .ref t6])), aI G t1 9 sz_, aI G t2 9 pt, aI G t3 9 fh, aI G t4 8 kd, aI G t5 8 nd, aI G t6 8 fw] H := hP
  have hD : va_D A [(e0, .inr (5, [.ref e01, .int xl, .int (-1), .int 0, .int 0, .int xt, .int 0, .int 0])), aB G e01 400 xb, (t, .inr (6, [.int ns, .int np, .int fu, .int fd, .int fi, .ref t1, .ref t2, .ref t3, .ref t4, .ref t5, .ref t6])), aI G t1 9 sz_, aI G t2 9 pt, aI G t3 9 fh, aI G t4 8 kd, aI G t5 8 nd, aI G t6 8 fw] := hD
  refine lv_aload_n hx hb dX5_readInto_25 rfl (lv_at hl 1 rfl) ?_
  refine x_callv (wr := [(e0, .inr (5, [.ref e01, .int xl, .int (-1), .int 0, .int 0, .int xt, .int 0, .int 0])), aB G e01 400 xb]) (w' := fun (u : (Int32) × (Int32) × (Int32) × (Int32) × (Int32)) => [(e0, .inr (5, [.ref e01, .int xl, .int (-1), .int 0, .int 0, .int xt, .int 0, .int 0])), aB G e01 400 xb, (t, .inr (6, [.int u.1, .int u.2.1, .int u.2.2.1, .int u.2.2.2.1, .int u.2.2.2.2, .ref t1, .ref t2, .ref t3, .ref t4, .ref t5, .ref t6])), aI G t1 9 sz_, aI G t2 9 pt, aI G t3 9 fh, aI G t4 8 kd, aI G t5 8 nd, aI G t6 8 fw]) (x_runV (As := []) (rest := []) (n := 0) (C := RX6) (ci := 6) ⟨hx, hb, hml, hown, hts⟩ (k_X6_clear l G t t1 t2 t3 t4 t5 t6 _ ns np fu fd fi sz_ pt fh kd nd fw) gX5_readInto_X6_clear rfl (by decide +kernel) ⟨Nat.le_trans (Nat.le_of_ble_eq_true rfl) hRf, Nat.le_trans (Nat.le_of_ble_eq_true rfl) hRl⟩ hKK hSS hS hA hP hD [2, 3, 4, 5, 6, 7, 8] (by decide) rfl rfl rfl 2 rfl rfl hl.1 rfl (Nat.le_of_ble_eq_true rfl) dX5_readInto_26) hP hD hS hA [2, 3, 4, 5, 6, 7, 8] [0, 1] [0, 1, 2, 3, 4, 5, 6, 7, 8] rfl rfl (by decide) (by decide) (by decide) (fun _ => rfl) (fun  u H locs hw hP hD hS => ?_)
  obtain ⟨ns2_2, np2_3, fu2_4, fd2_5, fi2_6⟩ := u
  obtain ⟨hw0, hw1, hw2, hw3, hw4⟩ := hw
  replace hw0 := hw0.symm; subst hw0
  replace hw1 := hw1.symm; subst hw1
  replace hw2 := hw2.symm; subst hw2
  replace hw3 := hw3.symm; subst hw3
  replace hw4 := hw4.symm; subst hw4
  have hP : va_P G.1 vwCl [(e0, .inr (5, [.ref e01, .int xl, .int (-1), .int 0, .int 0, .int xt, .int 0, .int 0])), aB G e01 400 xb, (t, .inr (6, [.int 0, .int 0, .int 3, .int 1, .int 0, .ref t1, .ref t2, .ref t3, .ref t4, .ref t5, .ref t6])), aI G t1 9 sz_, aI G t2 9 pt, aI G t3 9 fh, aI G t4 8 kd, aI G t5 8 nd, aI G t6 8 fw] H := hP
  have hD : va_D A [(e0, .inr (5, [.ref e01, .int xl, .int (-1), .int 0, .int 0, .int xt, .int 0, .int 0])), aB G e01 400 xb, (t, .inr (6, [.int 0, .int 0, .int 3, .int 1, .int 0, .ref t1, .ref t2, .ref t3, .ref t4, .ref t5, .ref t6])), aI G t1 9 sz_, aI G t2 9 pt, aI G t3 9 fh, aI G t4 8 kd, aI G t5 8 nd, aI G t6 8 fw] := hD
  refine lv_iconst (v := 0) hx hb dX5_readInto_29 (by decide) ?_
  refine lv_istore_n (lv' := [(2, .int 0), (0, .ref e0), (1, .ref t)]) hx hb dX5_readInto_30 rfl hl (by decide) rfl (fun ls hl => ?_)
  obtain ⟨I31_25, μ31_26, hi0, hs_58⟩ := hv
  have Lm_60 : ∀ (n_59 : Nat) (ft1_7 : (Nat → Int32)) (ft2_8 : (Nat → Int32)) (ft3_9 : (Nat → Int32)) (ft4_10 : (Nat → Int32)) (ft5_11 : (Nat → Int32)) (ft6_12 : (Nat → Int32)) (ge02_13 : Int32) (ge03_14 : Int32) (ge04_15 : Int32) (ge05_16 : Int32) (ge06_17 : Int32) (ge07_18 : Int32) (gt0_19 : Int32) (gt1_20 : Int32) (gt2_21 : Int32) (gt3_22 : Int32) (gt4_23 : Int32) (x2_24 : Int32) (H : Heap) (locs : List Loc) (ls : Array Slot), μ31_26 ft1_7 ft2_8 ft3_9 ft4_10 ft5_11 ft6_12 ge02_13 ge03_14 ge04_15 ge05_16 ge06_17 ge07_18 gt0_19 gt1_20 gt2_21 gt3_22 gt4_23 x2_24 < n_59 → I31_25 ft1_7 ft2_8 ft3_9 ft4_10 ft5_11 ft6_12 ge02_13 ge03_14 ge04_15 ge05_16 ge06_17 ge07_18 gt0_19 gt1_20 gt2_21 gt3_22 gt4_23 x2_24 → va_P G.1 vwCl [(e0, .inr (5, [.ref e01, .int xl, .int ge02_13, .int ge03_14, .int ge04_15, .int ge05_16, .int ge06_17, .int ge07_18])), aB G e01 400 xb, (t, .inr (6, [.int gt0_19, .int gt1_20, .int gt2_21, .int gt3_22, .int gt4_23, .ref t1, .ref t2, .ref t3, .ref t4, .ref t5, .ref t6])), aI G t1 9 ft1_7, aI G t2 9 ft2_8, aI G t3 9 ft3_9, aI G t4 8 ft4_10, aI G t5 8 ft5_11, aI G t6 8 ft6_12] H → va_D A [(e0, .inr (5, [.ref e01, .int xl, .int ge02_13, .int ge03_14, .int ge04_15, .int ge05_16, .int ge06_17, .int ge07_18])), aB G e01 400 xb, (t, .inr (6, [.int gt0_19, .int gt1_20, .int gt2_21, .int gt3_22, .int gt4_23, .ref t1, .ref t2, .ref t3, .ref t4, .ref t5, .ref t6])), aI G t1 9 ft1_7, aI G t2 9 ft2_8, aI G t3 9 ft3_9, aI G t4 8 ft4_10, aI G t5 8 ft5_11, aI G t6 8 ft6_12] → va_S A s.heap H locs → lv_has ls 3 [(2, .int x2_24), (0, .ref e0), (1, .ref t)] → W p l e R s m args below meth c H locs 0 0 Q (F0 m 31 ls []) := by
    intro n_59
    induction n_59 with
    | zero => intro ft1_7 ft2_8 ft3_9 ft4_10 ft5_11 ft6_12 ge02_13 ge03_14 ge04_15 ge05_16 ge06_17 ge07_18 gt0_19 gt1_20 gt2_21 gt3_22 gt4_23 x2_24 H locs ls hm; exact absurd hm (Nat.not_lt_zero _)
    | succ n_59 ih_27 =>
      intro ft1_7 ft2_8 ft3_9 ft4_10 ft5_11 ft6_12 ge02_13 ge03_14 ge04_15 ge05_16 ge06_17 ge07_18 gt0_19 gt1_20 gt2_21 gt3_22 gt4_23 x2_24 H locs ls hI_28 hi hP hD hS hl
      have hv := hs_58 ft1_7 ft2_8 ft3_9 ft4_10 ft5_11 ft6_12 ge02_13 ge03_14 ge04_15 ge05_16 ge06_17 ge07_18 gt0_19 gt1_20 gt2_21 gt3_22 gt4_23 x2_24 hi
      refine lv_iload_n hx hb dX5_readInto_31 rfl (lv_at hl 0 rfl) ?_
      refine lv_sipush (v := 400) hx hb dX5_readInto_32 (by decide) ?_
      refine lv_icmp_ge (tgt := 56) hx hb dX5_readInto_35 (by decide) (fun hc_29 => ?_) (fun hc_29 => ?_)
      · have hv := hv.1 hc_29
        refine lv_aload_n hx hb dX5_readInto_56 rfl (lv_at hl 1 rfl) ?_
        refine lv_iconst (v := 0) hx hb dX5_readInto_57 (by decide) ?_
        refine va_put (D := G.1) (ci := 5) (v := .int 0) (ty := .int) (C := RX5) (T := TX5) (N := 8) hx hb hts hinX5 tyX5 tyX5_ok nmX5 hown hKK.1 hP hD hS 0 rfl rfl 1 (by decide) kl19 (fun _ h9 => h9) rfl (by decide +kernel) rfl rfl (Nat.le_of_ble_eq_true rfl) dX5_readInto_58 (fun H locs hP hD hS => ?_)
        have hP : va_P G.1 vwCl [(e0, .inr (5, [.ref e01, .int 0, .int ge02_13, .int ge03_14, .int ge04_15, .int ge05_16, .int ge06_17, .int ge07_18])), aB G e01 400 xb, (t, .inr (6, [.int gt0_19, .int gt1_20, .int gt2_21, .int gt3_22, .int gt4_23, .ref t1, .ref t2, .ref t3, .ref t4, .ref t5, .ref t6])), aI G t1 9 ft1_7, aI G t2 9 ft2_8, aI G t3 9 ft3_9, aI G t4 8 ft4_10, aI G t5 8 ft5_11, aI G t6 8 ft6_12] H := hP
        have hD : va_D A [(e0, .inr (5, [.ref e01, .int 0, .int ge02_13, .int ge03_14, .int ge04_15, .int ge05_16, .int ge06_17, .int ge07_18])), aB G e01 400 xb, (t, .inr (6, [.int gt0_19, .int gt1_20, .int gt2_21, .int gt3_22, .int gt4_23, .ref t1, .ref t2, .ref t3, .ref t4, .ref t5, .ref t6])), aI G t1 9 ft1_7, aI G t2 9 ft2_8, aI G t3 9 ft3_9, aI G t4 8 ft4_10, aI G t5 8 ft5_11, aI G t6 8 ft6_12] := hD
        refine lv_aload_n hx hb dX5_readInto_61 rfl (lv_at hl 1 rfl) ?_
        refine va_get (D := G.1) (ci := 5) (v := .int ge03_14) (C := RX5) (T := TX5) (N := 8) hx hb hts hinX5 hown hKK.1 hP 0 rfl rfl 3 (by decide) kl25 (fun _ h9 => h9) rfl dX5_readInto_62 ?_
        exact x_iret (v := ge03_14) (0, ge04_15, ge05_16, ge03_14, ge02_13, ge06_17, ge07_18, gt0_19, ft1_7, ft2_8, ft3_9, gt1_20, ft4_10, ft5_11, ft6_12, gt2_21, gt3_22, gt4_23) hQ hx hb hr hlocks hS dX5_readInto_65 hv hP hD
      · have hv := hv.2 hc_29
        refine lv_aload_n hx hb dX5_readInto_38 rfl (lv_at hl 1 rfl) ?_
        obtain ⟨gB_30, gL_31, gaq_32, hv⟩ := hv
        obtain ⟨hp, hv⟩ := hv
        refine x_calli (wr := [(t, .inr (6, [.int gt0_19, .int gt1_20, .int gt2_21, .int gt3_22, .int gt4_23, .ref t1, .ref t2, .ref t3, .ref t4, .ref t5, .ref t6])), aI G t1 9 ft1_7, aI G t2 9 ft2_8, aI G t3 9 ft3_9, aI G t4 8 ft4_10, aI G t5 8 ft5_11, aI G t6 8 ft6_12]) (w' := fun (u : (Int32)) => [(e0, .inr (5, [.ref e01, .int xl, .int ge02_13, .int ge03_14, .int u, .int ge05_16, .int ge06_17, .int ge07_18])), aB G e01 400 xb, (t, .inr (6, [.int gt0_19, .int gt1_20, .int gt2_21, .int gt3_22, .int gt4_23, .ref t1, .ref t2, .ref t3, .ref t4, .ref t5, .ref t6])), aI G t1 9 ft1_7, aI G t2 9 ft2_8, aI G t3 9 ft3_9, aI G t4 8 ft4_10, aI G t5 8 ft5_11, aI G t6 8 ft6_12]) (x_runV (As := []) (rest := []) (n := 0) (C := RX5) (ci := 5) ⟨hx, hb, hml, hown, hts⟩ (k_X5_hasMore l G e0 e01 _ xb xl ge02_13 ge03_14 ge04_15 ge05_16 ge06_17 ge07_18 gB_30 gL_31 gaq_32 hp) gX5_readInto_X5_hasMore rfl (by decide +kernel) ⟨Nat.le_trans (Nat.le_of_ble_eq_true rfl) hRf, Nat.le_trans (Nat.le_of_ble_eq_true rfl) hRl⟩ hKK hSS hS hA hP hD [0, 1] (by decide) rfl rfl rfl 0 rfl rfl hl.1 rfl (Nat.le_of_ble_eq_true rfl) dX5_readInto_39) hP hD hS hA [0, 1] [2, 3, 4, 5, 6, 7, 8] [7, 8, 0, 1, 2, 3, 4, 5, 6] rfl rfl (by decide) (by decide) (by decide) (fun _ => rfl) (fun r_33 u H locs hw hP hD hS => ?_)
        obtain ⟨xa2_34, rfl⟩ : ∃ z9_, z9_ = u := ⟨_, rfl⟩
        have hP : va_P G.1 vwCl [(e0, .inr (5, [.ref e01, .int xl, .int ge02_13, .int ge03_14, .int xa2_34, .int ge05_16, .int ge06_17, .int ge07_18])), aB G e01 400 xb, (t, .inr (6, [.int gt0_19, .int gt1_20, .int gt2_21, .int gt3_22, .int gt4_23, .ref t1, .ref t2, .ref t3, .ref t4, .ref t5, .ref t6])), aI G t1 9 ft1_7, aI G t2 9 ft2_8, aI G t3 9 ft3_9, aI G t4 8 ft4_10, aI G t5 8 ft5_11, aI G t6 8 ft6_12] H := hP
        have hD : va_D A [(e0, .inr (5, [.ref e01, .int xl, .int ge02_13, .int ge03_14, .int xa2_34, .int ge05_16, .int ge06_17, .int ge07_18])), aB G e01 400 xb, (t, .inr (6, [.int gt0_19, .int gt1_20, .int gt2_21, .int gt3_22, .int gt4_23, .ref t1, .ref t2, .ref t3, .ref t4, .ref t5, .ref t6])), aI G t1 9 ft1_7, aI G t2 9 ft2_8, aI G t3 9 ft3_9, aI G t4 8 ft4_10, aI G t5 8 ft5_11, aI G t6 8 ft6_12] := hD
        have hv := hv r_33 xa2_34 hw
        refine lv_if_eq (tgt := 56) hx hb dX5_readInto_42 (by decide) (fun hc_35 => ?_) (fun hc_35 => ?_)
        · have hv := hv.1 hc_35
          refine lv_aload_n hx hb dX5_readInto_56 rfl (lv_at hl 1 rfl) ?_
          refine lv_iconst (v := 0) hx hb dX5_readInto_57 (by decide) ?_
          refine va_put (D := G.1) (ci := 5) (v := .int 0) (ty := .int) (C := RX5) (T := TX5) (N := 8) hx hb hts hinX5 tyX5 tyX5_ok nmX5 hown hKK.1 hP hD hS 0 rfl rfl 1 (by decide) kl19 (fun _ h9 => h9) rfl (by decide +kernel) rfl rfl (Nat.le_of_ble_eq_true rfl) dX5_readInto_58 (fun H locs hP hD hS => ?_)
          have hP : va_P G.1 vwCl [(e0, .inr (5, [.ref e01, .int 0, .int ge02_13, .int ge03_14, .int xa2_34, .int ge05_16, .int ge06_17, .int ge07_18])), aB G e01 400 xb, (t, .inr (6, [.int gt0_19, .int gt1_20, .int gt2_21, .int gt3_22, .int gt4_23, .ref t1, .ref t2, .ref t3, .ref t4, .ref t5, .ref t6])), aI G t1 9 ft1_7, aI G t2 9 ft2_8, aI G t3 9 ft3_9, aI G t4 8 ft4_10, aI G t5 8 ft5_11, aI G t6 8 ft6_12] H := hP
          have hD : va_D A [(e0, .inr (5, [.ref e01, .int 0, .int ge02_13, .int ge03_14, .int xa2_34, .int ge05_16, .int ge06_17, .int ge07_18])), aB G e01 400 xb, (t, .inr (6, [.int gt0_19, .int gt1_20, .int gt2_21, .int gt3_22, .int gt4_23, .ref t1, .ref t2, .ref t3, .ref t4, .ref t5, .ref t6])), aI G t1 9 ft1_7, aI G t2 9 ft2_8, aI G t3 9 ft3_9, aI G t4 8 ft4_10, aI G t5 8 ft5_11, aI G t6 8 ft6_12] := hD
          refine lv_aload_n hx hb dX5_readInto_61 rfl (lv_at hl 1 rfl) ?_
          refine va_get (D := G.1) (ci := 5) (v := .int ge03_14) (C := RX5) (T := TX5) (N := 8) hx hb hts hinX5 hown hKK.1 hP 0 rfl rfl 3 (by decide) kl25 (fun _ h9 => h9) rfl dX5_readInto_62 ?_
          exact x_iret (v := ge03_14) (0, xa2_34, ge05_16, ge03_14, ge02_13, ge06_17, ge07_18, gt0_19, ft1_7, ft2_8, ft3_9, gt1_20, ft4_10, ft5_11, ft6_12, gt2_21, gt3_22, gt4_23) hQ hx hb hr hlocks hS dX5_readInto_65 hv hP hD
        · have hv := hv.2 hc_35
          refine lv_aload_n hx hb dX5_readInto_45 rfl (lv_at hl 1 rfl) ?_
          refine lv_aload_n hx hb dX5_readInto_46 rfl (lv_at hl 2 rfl) ?_
          obtain ⟨gB_36, gL_37, gaq_38, gtq_39, hv⟩ := hv
          obtain ⟨hp, hv⟩ := hv
          refine x_callv (wr := []) (w' := fun (u : (Int32) × (Int32) × (Int32) × (Int32) × (Int32) × (Int32) × (Int32) × (Nat → Int32) × (Nat → Int32) × (Nat → Int32) × (Int32) × (Nat → Int32) × (Nat → Int32) × (Nat → Int32) × (Int32) × (Int32) × (Int32)) => [(e0, .inr (5, [.ref e01, .int xl, .int u.2.2.2.1, .int u.2.2.1, .int u.1, .int u.2.1, .int u.2.2.2.2.1, .int u.2.2.2.2.2.1])), aB G e01 400 xb, (t, .inr (6, [.int u.2.2.2.2.2.2.1, .int u.2.2.2.2.2.2.2.2.2.2.1, .int u.2.2.2.2.2.2.2.2.2.2.2.2.2.2.1, .int u.2.2.2.2.2.2.2.2.2.2.2.2.2.2.2.1, .int u.2.2.2.2.2.2.2.2.2.2.2.2.2.2.2.2, .ref t1, .ref t2, .ref t3, .ref t4, .ref t5, .ref t6])), aI G t1 9 u.2.2.2.2.2.2.2.1, aI G t2 9 u.2.2.2.2.2.2.2.2.1, aI G t3 9 u.2.2.2.2.2.2.2.2.2.1, aI G t4 8 u.2.2.2.2.2.2.2.2.2.2.2.1, aI G t5 8 u.2.2.2.2.2.2.2.2.2.2.2.2.1, aI G t6 8 u.2.2.2.2.2.2.2.2.2.2.2.2.2.1]) (x_runV (As := [.ref t]) (rest := []) (n := 1) (C := RX5) (ci := 5) ⟨hx, hb, hml, hown, hts⟩ (k_X5_readClause l G e0 e01 t t1 t2 t3 t4 t5 t6 _ xb xl ge02_13 ge03_14 xa2_34 ge05_16 ge06_17 ge07_18 gt0_19 gt1_20 gt2_21 gt3_22 gt4_23 ft1_7 ft2_8 ft3_9 ft4_10 ft5_11 ft6_12 gB_36 gL_37 gaq_38 gtq_39 hp) gX5_readInto_X5_readClause rfl (by decide +kernel) ⟨Nat.le_trans (Nat.le_of_ble_eq_true rfl) hRf, Nat.le_trans (Nat.le_of_ble_eq_true rfl) hRl⟩ hKK hSS hS hA hP hD [0, 1, 2, 3, 4, 5, 6, 7, 8] (by decide) rfl rfl rfl 0 rfl rfl hl.1 rfl (Nat.le_of_ble_eq_true rfl) dX5_readInto_47) hP hD hS hA [0, 1, 2, 3, 4, 5, 6, 7, 8] [] [0, 1, 2, 3, 4, 5, 6, 7, 8] rfl rfl (by decide) (by decide) (by decide) (fun _ => rfl) (fun  u H locs hw hP hD hS => ?_)
          obtain ⟨xa2_41, xt2_42, xg2_43, xf2_44, xr2_45, xn2_46, ns2_47, sz2_48, pt2_49, fh2_50, np2_51, kd2_52, nd2_53, fw2_54, fu2_55, fd2_56, fi2_57⟩ := u
          have hP : va_P G.1 vwCl [(e0, .inr (5, [.ref e01, .int xl, .int xf2_44, .int xg2_43, .int xa2_41, .int xt2_42, .int xr2_45, .int xn2_46])), aB G e01 400 xb, (t, .inr (6, [.int ns2_47, .int np2_51, .int fu2_55, .int fd2_56, .int fi2_57, .ref t1, .ref t2, .ref t3, .ref t4, .ref t5, .ref t6])), aI G t1 9 sz2_48, aI G t2 9 pt2_49, aI G t3 9 fh2_50, aI G t4 8 kd2_52, aI G t5 8 nd2_53, aI G t6 8 fw2_54] H := hP
          have hD : va_D A [(e0, .inr (5, [.ref e01, .int xl, .int xf2_44, .int xg2_43, .int xa2_41, .int xt2_42, .int xr2_45, .int xn2_46])), aB G e01 400 xb, (t, .inr (6, [.int ns2_47, .int np2_51, .int fu2_55, .int fd2_56, .int fi2_57, .ref t1, .ref t2, .ref t3, .ref t4, .ref t5, .ref t6])), aI G t1 9 sz2_48, aI G t2 9 pt2_49, aI G t3 9 fh2_50, aI G t4 8 kd2_52, aI G t5 8 nd2_53, aI G t6 8 fw2_54] := hD
          have hv := hv xa2_41 xt2_42 xg2_43 xf2_44 xr2_45 xn2_46 ns2_47 sz2_48 pt2_49 fh2_50 np2_51 kd2_52 nd2_53 fw2_54 fu2_55 fd2_56 fi2_57 hw
          refine lv_iinc (v := (x2_24 + 1)) (lv' := [(2, .int (x2_24 + 1)), (0, .ref e0), (1, .ref t)]) hx hb dX5_readInto_50 hl (k := 0) rfl rfl (by decide) rfl (fun ls hl => ?_)
          refine lv_goto (tgt := 31) hx hb dX5_readInto_53 (by decide) ?_
          exact ih_27 _ _ _ _ _ _ _ _ _ _ _ _ _ _ _ _ _ _ _ _ _ (Nat.lt_of_lt_of_le hv.2 (Nat.le_of_lt_succ hI_28)) hv.1 hP hD hS hl
  exact Lm_60 _ _ _ _ _ _ _ _ _ _ _ _ _ _ _ _ _ _ _ _ _ _ (Nat.lt_succ_self _) hi0 hP hD hS hl
theorem v_X5_readInto (l : Launch) (G : Gt) (e0 e01 t t1 t2 t3 t4 t5 t6 : Nat) (sz : Nat) (xb : Nat → Int32) (xl : Int32) (xf : Int32) (xg : Int32) (xa : Int32) (xt : Int32) (xr : Int32) (xn : Int32) (ns : Int32) (np : Int32) (fu : Int32) (fd : Int32) (fi : Int32) (sz_ : Nat → Int32) (pt : Nat → Int32) (fh : Nat → Int32) (kd : Nat → Int32) (nd : Nat → Int32) (fw : Nat → Int32) (B : Nat → Int) (L : Nat) (hp : CX B L xb xl) : ∃ (I31_25 : (Nat → Int32) → (Nat → Int32) → (Nat → Int32) → (Nat → Int32) → (Nat → Int32) → (Nat → Int32) → Int32 → Int32 → Int32 → Int32 → Int32 → Int32 → Int32 → Int32 → Int32 → Int32 → Int32 → Int32 → Prop) (μ31_26 : (Nat → Int32) → (Nat → Int32) → (Nat → Int32) → (Nat → Int32) → (Nat → Int32) → (Nat → Int32) → Int32 → Int32 → Int32 → Int32 → Int32 → Int32 → Int32 → Int32 → Int32 → Int32 → Int32 → Int32 → Nat), I31_25 sz_ pt fh kd nd fw (-1) 0 0 xt 0 0 0 0 3 1 0 0 ∧ (∀ (ft1_7 : (Nat → Int32)) (ft2_8 : (Nat → Int32)) (ft3_9 : (Nat → Int32)) (ft4_10 : (Nat → Int32)) (ft5_11 : (Nat → Int32)) (ft6_12 : (Nat → Int32)) (ge02_13 : Int32) (ge03_14 : Int32) (ge04_15 : Int32) (ge05_16 : Int32) (ge06_17 : Int32) (ge07_18 : Int32) (gt0_19 : Int32) (gt1_20 : Int32) (gt2_21 : Int32) (gt3_22 : Int32) (gt4_23 : Int32) (x2_24 : Int32), I31_25 ft1_7 ft2_8 ft3_9 ft4_10 ft5_11 ft6_12 ge02_13 ge03_14 ge04_15 ge05_16 ge06_17 ge07_18 gt0_19 gt1_20 gt2_21 gt3_22 gt4_23 x2_24 → (400 ≤ x2_24 → (0 : Int32) = 0 ∧ CI (paT B L) ge03_14 ge02_13 gt0_19 gt1_20 gt2_21 gt3_22 gt4_23 ft1_7 ft2_8 ft3_9 ft4_10 ft5_11 ft6_12) ∧ (¬ (400 ≤ x2_24) → ∃ (gB_30 : Nat → Int) (gL_31 : Nat) (gaq_32 : Nat), ((CX gB_30 gL_31 xb xl ∧ ge04_15 = nI gaq_32 ∧ gaq_32 ≤ gL_31) ∧ (∀ (r_33 : Int32) (xa2_34 : Int32), (r_33 = (if ge03_14 = 0 ∧ sk gB_30 gL_31 gaq_32 < gL_31 then 1 else 0) ∧ xa2_34 = nI (sk gB_30 gL_31 gaq_32)) → ((r_33 = 0 → (0 : Int32) = 0 ∧ CI (paT B L) ge03_14 ge02_13 gt0_19 gt1_20 gt2_21 gt3_22 gt4_23 ft1_7 ft2_8 ft3_9 ft4_10 ft5_11 ft6_12) ∧ (¬ (r_33 = 0) → ∃ (gB_36 : Nat → Int) (gL_37 : Nat) (gaq_38 : Nat) (gtq_39 : PTn), ((CX gB_36 gL_37 xb xl ∧ CP gL_37 (.inr (gaq_38, gtq_39)) ge03_14 ge02_13 xa2_34 ge06_17 ge07_18 gt0_19 gt1_20 gt2_21 gt3_22 gt4_23 ft1_7 ft2_8 ft3_9 ft4_10 ft5_11 ft6_12 ∧ gtq_39.1 ≤ 9 ∧ gtq_39.2.1 ≤ 8) ∧ (∀ (xa2_41 : Int32) (xt2_42 : Int32) (xg2_43 : Int32) (xf2_44 : Int32) (xr2_45 : Int32) (xn2_46 : Int32) (ns2_47 : Int32) (sz2_48 : Nat → Int32) (pt2_49 : Nat → Int32) (fh2_50 : Nat → Int32) (np2_51 : Int32) (kd2_52 : Nat → Int32) (nd2_53 : Nat → Int32) (fw2_54 : Nat → Int32) (fu2_55 : Int32) (fd2_56 : Int32) (fi2_57 : Int32), (CP gL_37 (clR gB_36 gL_37 gaq_38 gtq_39) xg2_43 xf2_44 xa2_41 xr2_45 xn2_46 ns2_47 np2_51 fu2_55 fd2_56 fi2_57 sz2_48 pt2_49 fh2_50 kd2_52 nd2_53 fw2_54) → (I31_25 sz2_48 pt2_49 fh2_50 kd2_52 nd2_53 fw2_54 xf2_44 xg2_43 xa2_41 xt2_42 xr2_45 xn2_46 ns2_47 np2_51 fu2_55 fd2_56 fi2_57 (x2_24 + 1) ∧ μ31_26 sz2_48 pt2_49 fh2_50 kd2_52 nd2_53 fw2_54 xf2_44 xg2_43 xa2_41 xt2_42 xr2_45 xn2_46 ns2_47 np2_51 fu2_55 fd2_56 fi2_57 (x2_24 + 1) < μ31_26 ft1_7 ft2_8 ft3_9 ft4_10 ft5_11 ft6_12 ge02_13 ge03_14 ge04_15 ge05_16 ge06_17 ge07_18 gt0_19 gt1_20 gt2_21 gt3_22 gt4_23 x2_24))))))))) := by
  have hX : CX B L xb xl := hp
  have hL := hX.1
  have hxl := hX.2.1
  refine ⟨fun sz_ pt fh kd nd fw xf xg xa _ xr xn ns np fu fd fi z => ∃ (c : Nat) (st : Flt ⊕ (Nat × PTn)), z = nI c ∧ c ≤ 400 ∧ CP L st xg xf xa xr xn ns np fu fd fi sz_ pt fh kd nd fw ∧ (∀ x, st = .inl x → paT B L = .inl x) ∧ (∀ a t, st = .inr (a, t) → c ≤ a ∧ POK t ∧ paR B L a t = paT B L), fun _ _ _ _ _ _ _ _ _ _ _ _ _ _ _ _ _ z => 401 - z.toNatClampNeg, ⟨0, .inr (0, 0, 0, T0n, false, false), rfl, by omega, ⟨⟨by omega, rfl, rfl, rfl⟩, CW_0, rfl, rfl⟩, fun x h => absurd h (by intro z; cases z), fun a t h => by cases h; exact ⟨Nat.le_refl _, POK_0, rfl⟩⟩, ?_⟩
  rintro sz_ pt fh kd nd fw xf xg xa xt xr xn ns np fu fd fi z ⟨c, st, rfl, hc, hP, hf, ho⟩
  have ec : (nI c).toNatClampNeg = c := nI_clamp (by omega)
  have ec1 : nI c + 1 = nI (c + 1) := nI_1 c
  have ec2 : (nI (c + 1)).toNatClampNeg = c + 1 := nI_clamp (by omega)
  have h4 : 400 ≤ nI c ↔ 400 ≤ c := nI_leI (a := 400) (by omega) (by omega)
  simp only [ec, ec1, ec2, h4]
  cases st with
  | inl x =>
    have h : CSf L x xg xf xa := hP
    have e := hf x rfl
    have fin : CI (paT B L) xg xf ns np fu fd fi sz_ pt fh kd nd fw := by
      rw [e]
      exact ⟨h.1, h.2.1, h.2.2.1, h.2.2.2.1⟩
    obtain ⟨a, ha, hxa⟩ := h.2.2.2.2
    refine ⟨fun _ => ⟨trivial, fin⟩, fun _ => ⟨B, L, a, ⟨hX, hxa, ha⟩, fun r xa2 hr => ⟨fun _ => ⟨trivial, fin⟩, fun z => ?_⟩⟩⟩
    exact absurd (by rw [hr.1, if_neg (fun y => h.ne y.1)]) z
  | inr s =>
    obtain ⟨a, t⟩ := s
    obtain ⟨⟨ha, rfl, rfl, rfl⟩, hW, rfl, rfl⟩ := hP
    obtain ⟨o1, o2, o3⟩ := ho a t rfl
    have fin : ¬ sk B L a < L → CI (paT B L) 0 (-1) ns np fu fd fi sz_ pt fh kd nd fw := fun h => by
      rw [← o3, pa_end h]
      exact ⟨rfl, rfl, hW⟩
    have hsa := sk_le (B := B) (L := L) (a := a)
    refine ⟨fun q => ⟨trivial, fin (by omega)⟩, fun q => ⟨B, L, a, ⟨hX, rfl, ha⟩, fun r xa2 hr => ?_⟩⟩
    obtain ⟨rfl, rfl⟩ := hr
    rw [tv_eq]
    refine ⟨fun z => ⟨trivial, fin (fun y => z ⟨rfl, y⟩)⟩, fun z => ?_⟩
    have hlt : sk B L a < L := (Classical.not_not.mp z).2
    refine ⟨B, L, sk B L a, t, ⟨hX, ⟨⟨by omega, rfl, rfl, rfl⟩, hW, rfl, rfl⟩, o2.1.1, o2.1.2.1⟩, fun xa2 xt2 xg2 xf2 xr2 xn2 ns2 sz2 pt2 fh2 np2 kd2 nd2 fw2 fu2 fd2 fi2 h2 => ?_⟩
    rw [clR_sk] at h2
    refine ⟨⟨c + 1, clR B L a t, rfl, by omega, h2, fun x hx => ?_, fun a2 t2 hx => ?_⟩, by omega⟩
    · rw [← o3]; exact pa_flt ha hlt hx
    · have ck := clR_ok hx ha o2
      exact ⟨by omega, ck.2.2, by rw [← o3]; exact pa_go o2 ha hlt hx⟩
theorem k_X5_readInto (l : Launch) (G : Gt) (e0 e01 t t1 t2 t3 t4 t5 t6 : Nat) (sz : Nat) (xb : Nat → Int32) (xl : Int32) (xf : Int32) (xg : Int32) (xa : Int32) (xt : Int32) (xr : Int32) (xn : Int32) (ns : Int32) (np : Int32) (fu : Int32) (fd : Int32) (fi : Int32) (sz_ : Nat → Int32) (pt : Nat → Int32) (fh : Nat → Int32) (kd : Nat → Int32) (nd : Nat → Int32) (fw : Nat → Int32) (B : Nat → Int) (L : Nat) (hp : CX B L xb xl) : MetI l yX5_readInto wsX5_readInto 8 172 G [.ref e0, .ref t] [(e0, .inr (5, [.ref e01, .int xl, .int xf, .int xg, .int xa, .int xt, .int xr, .int xn])), aB G e01 400 xb, (t, .inr (6, [.int ns, .int np, .int fu, .int fd, .int fi, .ref t1, .ref t2, .ref t3, .ref t4, .ref t5, .ref t6])), aI G t1 9 sz_, aI G t2 9 pt, aI G t3 9 fh, aI G t4 8 kd, aI G t5 8 nd, aI G t6 8 fw] sz (fun (r : Int32) (u : (Int32) × (Int32) × (Int32) × (Int32) × (Int32) × (Int32) × (Int32) × (Int32) × (Nat → Int32) × (Nat → Int32) × (Nat → Int32) × (Int32) × (Nat → Int32) × (Nat → Int32) × (Nat → Int32) × (Int32) × (Int32) × (Int32)) => u.1 = 0 ∧ CI (paT B L) r u.2.2.2.2.1 u.2.2.2.2.2.2.2.1 u.2.2.2.2.2.2.2.2.2.2.2.1 u.2.2.2.2.2.2.2.2.2.2.2.2.2.2.2.1 u.2.2.2.2.2.2.2.2.2.2.2.2.2.2.2.2.1 u.2.2.2.2.2.2.2.2.2.2.2.2.2.2.2.2.2 u.2.2.2.2.2.2.2.2.1 u.2.2.2.2.2.2.2.2.2.1 u.2.2.2.2.2.2.2.2.2.2.1 u.2.2.2.2.2.2.2.2.2.2.2.2.1 u.2.2.2.2.2.2.2.2.2.2.2.2.2.1 u.2.2.2.2.2.2.2.2.2.2.2.2.2.2.1) (fun (u : (Int32) × (Int32) × (Int32) × (Int32) × (Int32) × (Int32) × (Int32) × (Int32) × (Nat → Int32) × (Nat → Int32) × (Nat → Int32) × (Int32) × (Nat → Int32) × (Nat → Int32) × (Nat → Int32) × (Int32) × (Int32) × (Int32)) => [(e0, .inr (5, [.ref e01, .int u.1, .int u.2.2.2.2.1, .int u.2.2.2.1, .int u.2.1, .int u.2.2.1, .int u.2.2.2.2.2.1, .int u.2.2.2.2.2.2.1])), aB G e01 400 xb, (t, .inr (6, [.int u.2.2.2.2.2.2.2.1, .int u.2.2.2.2.2.2.2.2.2.2.2.1, .int u.2.2.2.2.2.2.2.2.2.2.2.2.2.2.2.1, .int u.2.2.2.2.2.2.2.2.2.2.2.2.2.2.2.2.1, .int u.2.2.2.2.2.2.2.2.2.2.2.2.2.2.2.2.2, .ref t1, .ref t2, .ref t3, .ref t4, .ref t5, .ref t6])), aI G t1 9 u.2.2.2.2.2.2.2.2.1, aI G t2 9 u.2.2.2.2.2.2.2.2.2.1, aI G t3 9 u.2.2.2.2.2.2.2.2.2.2.1, aI G t4 8 u.2.2.2.2.2.2.2.2.2.2.2.2.1, aI G t5 8 u.2.2.2.2.2.2.2.2.2.2.2.2.2.1, aI G t6 8 u.2.2.2.2.2.2.2.2.2.2.2.2.2.2.1]) :=
  c_X5_readInto l G e0 e01 t t1 t2 t3 t4 t5 t6 sz xb xl xf xg xa xt xr xn ns np fu fd fi sz_ pt fh kd nd fw B L (v_X5_readInto l G e0 e01 t t1 t2 t3 t4 t5 t6 sz xb xl xf xg xa xt xr xn ns np fu fd fi sz_ pt fh kd nd fw B L hp)
