set_option maxHeartbeats 4000000 in
set_option maxRecDepth 100000 in
theorem c_X6_hasStone (l : Launch) (G : Gt) (t t1 t2 t3 t4 t5 t6 : Nat) (sz : Nat) (ns : Int32) (np : Int32) (fu : Int32) (fd : Int32) (fi : Int32) (sz_ : Nat → Int32) (pt : Nat → Int32) (fh : Nat → Int32) (kd : Nat → Int32) (nd : Nat → Int32) (fw : Nat → Int32) (b : Int32) (hv : (b < 0 → (0 : Int32) = (if ¬ b < 0 ∧ ¬ ns ≤ b then 1 else 0)) ∧ (¬ (b < 0) → (ns ≤ b → (0 : Int32) = (if ¬ b < 0 ∧ ¬ ns ≤ b then 1 else 0)) ∧ (¬ (ns ≤ b) → (1 : Int32) = (if ¬ b < 0 ∧ ¬ ns ≤ b then 1 else 0)))) : MetI l yX6_hasStone wsX6_hasStone 0 0 G [.ref t, .int b] [(t, .inr (6, [.int ns, .int np, .int fu, .int fd, .int fi, .ref t1, .ref t2, .ref t3, .ref t4, .ref t5, .ref t6])), aI G t1 9 sz_, aI G t2 9 pt, aI G t3 9 fh, aI G t4 8 kd, aI G t5 8 nd, aI G t6 8 fw] sz (fun (r : Int32) (_ : Unit) => (r : Int32) = (if ¬ b < 0 ∧ ¬ ns ≤ b then 1 else 0)) (fun (_ : Unit) => [(t, .inr (6, [.int ns, .int np, .int fu, .int fd, .int fi, .ref t1, .ref t2, .ref t3, .ref t4, .ref t5, .ref t6])), aI G t1 9 sz_, aI G t2 9 pt, aI G t3 9 fh, aI G t4 8 kd, aI G t5 8 nd, aI G t6 8 fw]) := by
  refine x_startI (cc := cX6_hasStone) (maxL := 2) (ret := (some .boolean)) (by decide) rfl (Nat.le_of_ble_eq_true rfl) ?_
  intro p e s m args below meth c A R Q ls hRf hRl hQ C hP hD hS hA hSS hl
  obtain ⟨hx, hb, hr, hml, hown, hts, hlocks, hKK⟩ := C
  have hown : s.vm.findClass RX6 = some m.cls := hown
  have hl : lv_has ls 2 [(0, .ref t), (1, .int b)] := hl
  have hinX6 : ∀ w ∈ u_ws RX6 TX6 11, w ∈ wsX6_hasStone := by decide +kernel
  have kl37 := hts (.fieldLink RX6 37 "WarmStones$Town" "stones" "I") (by decide +kernel)
  refine lv_iload_n hx hb dX6_hasStone_0 rfl (lv_at hl 1 rfl) ?_
  refine lv_if_lt (tgt := 16) hx hb dX6_hasStone_1 (by decide) (fun hc_1 => ?_) (fun hc_1 => ?_)
  · have hv := hv.1 hc_1
    refine lv_iconst (v := 0) hx hb dX6_hasStone_16 (by decide) ?_
    exact x_zret (v := 0) () hQ hx hb hr hlocks hS dX6_hasStone_17 rfl hv hP hD
  · have hv := hv.2 hc_1
    refine lv_iload_n hx hb dX6_hasStone_4 rfl (lv_at hl 1 rfl) ?_
    refine lv_aload_n hx hb dX6_hasStone_5 rfl (lv_at hl 0 rfl) ?_
    refine va_get (D := G.1) (ci := 6) (v := .int ns) (C := RX6) (T := TX6) (N := 11) hx hb hts hinX6 hown hKK.1 hP 0 rfl rfl 0 (by decide) kl37 (fun _ h9 => h9) rfl dX6_hasStone_6 ?_
    refine lv_icmp_ge (tgt := 16) hx hb dX6_hasStone_9 (by decide) (fun hc_2 => ?_) (fun hc_2 => ?_)
    · have hv := hv.1 hc_2
      refine lv_iconst (v := 0) hx hb dX6_hasStone_16 (by decide) ?_
      exact x_zret (v := 0) () hQ hx hb hr hlocks hS dX6_hasStone_17 rfl hv hP hD
    · have hv := hv.2 hc_2
      refine lv_iconst (v := 1) hx hb dX6_hasStone_12 (by decide) ?_
      refine lv_goto (tgt := 17) hx hb dX6_hasStone_13 (by decide) ?_
      exact x_zret (v := 1) () hQ hx hb hr hlocks hS dX6_hasStone_17 rfl hv hP hD
theorem v_X6_hasStone (l : Launch) (G : Gt) (t t1 t2 t3 t4 t5 t6 : Nat) (sz : Nat) (ns : Int32) (np : Int32) (fu : Int32) (fd : Int32) (fi : Int32) (sz_ : Nat → Int32) (pt : Nat → Int32) (fh : Nat → Int32) (kd : Nat → Int32) (nd : Nat → Int32) (fw : Nat → Int32) (b : Int32) : (b < 0 → (0 : Int32) = (if ¬ b < 0 ∧ ¬ ns ≤ b then 1 else 0)) ∧ (¬ (b < 0) → (ns ≤ b → (0 : Int32) = (if ¬ b < 0 ∧ ¬ ns ≤ b then 1 else 0)) ∧ (¬ (ns ≤ b) → (1 : Int32) = (if ¬ b < 0 ∧ ¬ ns ≤ b then 1 else 0))) := by
  refine ?_
  simp_all
theorem k_X6_hasStone (l : Launch) (G : Gt) (t t1 t2 t3 t4 t5 t6 : Nat) (sz : Nat) (ns : Int32) (np : Int32) (fu : Int32) (fd : Int32) (fi : Int32) (sz_ : Nat → Int32) (pt : Nat → Int32) (fh : Nat → Int32) (kd : Nat → Int32) (nd : Nat → Int32) (fw : Nat → Int32) (b : Int32) : MetI l yX6_hasStone wsX6_hasStone 0 0 G [.ref t, .int b] [(t, .inr (6, [.int ns, .int np, .int fu, .int fd, .int fi, .ref t1, .ref t2, .ref t3, .ref t4, .ref t5, .ref t6])), aI G t1 9 sz_, aI G t2 9 pt, aI G t3 9 fh, aI G t4 8 kd, aI G t5 8 nd, aI G t6 8 fw] sz (fun (r : Int32) (_ : Unit) => (r : Int32) = (if ¬ b < 0 ∧ ¬ ns ≤ b then 1 else 0)) (fun (_ : Unit) => [(t, .inr (6, [.int ns, .int np, .int fu, .int fd, .int fi, .ref t1, .ref t2, .ref t3, .ref t4, .ref t5, .ref t6])), aI G t1 9 sz_, aI G t2 9 pt, aI G t3 9 fh, aI G t4 8 kd, aI G t5 8 nd, aI G t6 8 fw]) :=
  c_X6_hasStone l G t t1 t2 t3 t4 t5 t6 sz ns np fu fd fi sz_ pt fh kd nd fw b (v_X6_hasStone l G t t1 t2 t3 t4 t5 t6 sz ns np fu fd fi sz_ pt fh kd nd fw b)

set_option maxHeartbeats 4000000 in
set_option maxRecDepth 100000 in
theorem c_X6_hasPerson (l : Launch) (G : Gt) (t t1 t2 t3 t4 t5 t6 : Nat) (sz : Nat) (ns : Int32) (np : Int32) (fu : Int32) (fd : Int32) (fi : Int32) (sz_ : Nat → Int32) (pt : Nat → Int32) (fh : Nat → Int32) (kd : Nat → Int32) (nd : Nat → Int32) (fw : Nat → Int32) (b : Int32) (hv : (b < 0 → (0 : Int32) = (if ¬ b < 0 ∧ ¬ np ≤ b then 1 else 0)) ∧ (¬ (b < 0) → (np ≤ b → (0 : Int32) = (if ¬ b < 0 ∧ ¬ np ≤ b then 1 else 0)) ∧ (¬ (np ≤ b) → (1 : Int32) = (if ¬ b < 0 ∧ ¬ np ≤ b then 1 else 0)))) : MetI l yX6_hasPerson wsX6_hasPerson 0 0 G [.ref t, .int b] [(t, .inr (6, [.int ns, .int np, .int fu, .int fd, .int fi, .ref t1, .ref t2, .ref t3, .ref t4, .ref t5, .ref t6])), aI G t1 9 sz_, aI G t2 9 pt, aI G t3 9 fh, aI G t4 8 kd, aI G t5 8 nd, aI G t6 8 fw] sz (fun (r : Int32) (_ : Unit) => (r : Int32) = (if ¬ b < 0 ∧ ¬ np ≤ b then 1 else 0)) (fun (_ : Unit) => [(t, .inr (6, [.int ns, .int np, .int fu, .int fd, .int fi, .ref t1, .ref t2, .ref t3, .ref t4, .ref t5, .ref t6])), aI G t1 9 sz_, aI G t2 9 pt, aI G t3 9 fh, aI G t4 8 kd, aI G t5 8 nd, aI G t6 8 fw]) := by
  refine x_startI (cc := cX6_hasPerson) (maxL := 2) (ret := (some .boolean)) (by decide) rfl (Nat.le_of_ble_eq_true rfl) ?_
  intro p e s m args below meth c A R Q ls hRf hRl hQ C hP hD hS hA hSS hl
  obtain ⟨hx, hb, hr, hml, hown, hts, hlocks, hKK⟩ := C
  have hown : s.vm.findClass RX6 = some m.cls := hown
  have hl : lv_has ls 2 [(0, .ref t), (1, .int b)] := hl
  have hinX6 : ∀ w ∈ u_ws RX6 TX6 11, w ∈ wsX6_hasPerson := by decide +kernel
  have kl40 := hts (.fieldLink RX6 40 "WarmStones$Town" "persons" "I") (by decide +kernel)
  refine lv_iload_n hx hb dX6_hasPerson_0 rfl (lv_at hl 1 rfl) ?_
  refine lv_if_lt (tgt := 16) hx hb dX6_hasPerson_1 (by decide) (fun hc_1 => ?_) (fun hc_1 => ?_)
  · have hv := hv.1 hc_1
    refine lv_iconst (v := 0) hx hb dX6_hasPerson_16 (by decide) ?_
    exact x_zret (v := 0) () hQ hx hb hr hlocks hS dX6_hasPerson_17 rfl hv hP hD
  · have hv := hv.2 hc_1
    refine lv_iload_n hx hb dX6_hasPerson_4 rfl (lv_at hl 1 rfl) ?_
    refine lv_aload_n hx hb dX6_hasPerson_5 rfl (lv_at hl 0 rfl) ?_
    refine va_get (D := G.1) (ci := 6) (v := .int np) (C := RX6) (T := TX6) (N := 11) hx hb hts hinX6 hown hKK.1 hP 0 rfl rfl 1 (by decide) kl40 (fun _ h9 => h9) rfl dX6_hasPerson_6 ?_
    refine lv_icmp_ge (tgt := 16) hx hb dX6_hasPerson_9 (by decide) (fun hc_2 => ?_) (fun hc_2 => ?_)
    · have hv := hv.1 hc_2
      refine lv_iconst (v := 0) hx hb dX6_hasPerson_16 (by decide) ?_
      exact x_zret (v := 0) () hQ hx hb hr hlocks hS dX6_hasPerson_17 rfl hv hP hD
    · have hv := hv.2 hc_2
      refine lv_iconst (v := 1) hx hb dX6_hasPerson_12 (by decide) ?_
      refine lv_goto (tgt := 17) hx hb dX6_hasPerson_13 (by decide) ?_
      exact x_zret (v := 1) () hQ hx hb hr hlocks hS dX6_hasPerson_17 rfl hv hP hD
theorem v_X6_hasPerson (l : Launch) (G : Gt) (t t1 t2 t3 t4 t5 t6 : Nat) (sz : Nat) (ns : Int32) (np : Int32) (fu : Int32) (fd : Int32) (fi : Int32) (sz_ : Nat → Int32) (pt : Nat → Int32) (fh : Nat → Int32) (kd : Nat → Int32) (nd : Nat → Int32) (fw : Nat → Int32) (b : Int32) : (b < 0 → (0 : Int32) = (if ¬ b < 0 ∧ ¬ np ≤ b then 1 else 0)) ∧ (¬ (b < 0) → (np ≤ b → (0 : Int32) = (if ¬ b < 0 ∧ ¬ np ≤ b then 1 else 0)) ∧ (¬ (np ≤ b) → (1 : Int32) = (if ¬ b < 0 ∧ ¬ np ≤ b then 1 else 0))) := by
  refine ?_
  simp_all
theorem k_X6_hasPerson (l : Launch) (G : Gt) (t t1 t2 t3 t4 t5 t6 : Nat) (sz : Nat) (ns : Int32) (np : Int32) (fu : Int32) (fd : Int32) (fi : Int32) (sz_ : Nat → Int32) (pt : Nat → Int32) (fh : Nat → Int32) (kd : Nat → Int32) (nd : Nat → Int32) (fw : Nat → Int32) (b : Int32) : MetI l yX6_hasPerson wsX6_hasPerson 0 0 G [.ref t, .int b] [(t, .inr (6, [.int ns, .int np, .int fu, .int fd, .int fi, .ref t1, .ref t2, .ref t3, .ref t4, .ref t5, .ref t6])), aI G t1 9 sz_, aI G t2 9 pt, aI G t3 9 fh, aI G t4 8 kd, aI G t5 8 nd, aI G t6 8 fw] sz (fun (r : Int32) (_ : Unit) => (r : Int32) = (if ¬ b < 0 ∧ ¬ np ≤ b then 1 else 0)) (fun (_ : Unit) => [(t, .inr (6, [.int ns, .int np, .int fu, .int fd, .int fi, .ref t1, .ref t2, .ref t3, .ref t4, .ref t5, .ref t6])), aI G t1 9 sz_, aI G t2 9 pt, aI G t3 9 fh, aI G t4 8 kd, aI G t5 8 nd, aI G t6 8 fw]) :=
  c_X6_hasPerson l G t t1 t2 t3 t4 t5 t6 sz ns np fu fd fi sz_ pt fh kd nd fw b (v_X6_hasPerson l G t t1 t2 t3 t4 t5 t6 sz ns np fu fd fi sz_ pt fh kd nd fw b)

set_option maxHeartbeats 4000000 in
set_option maxRecDepth 100000 in
theorem c_X6_resistance (l : Launch) (G : Gt) (sz : Nat) (k : Int32) (hv : (k = 1 → (4 : Int32) = resI k) ∧ (k = 3 → (2 : Int32) = resI k) ∧ (¬ k = 1 ∧ ¬ k = 3 → (8 : Int32) = resI k)) : MetI l yX6_resistance wsX6_resistance 0 0 G [.int k] [] sz (fun (r : Int32) (_ : Unit) => (r : Int32) = resI k) (fun (_ : Unit) => []) := by
  refine x_startI (cc := cX6_resistance) (maxL := 1) (ret := (some .int)) (by decide) rfl (Nat.le_of_ble_eq_true rfl) ?_
  intro p e s m args below meth c A R Q ls hRf hRl hQ C hP hD hS hA hSS hl
  obtain ⟨hx, hb, hr, hml, hown, hts, hlocks, hKK⟩ := C
  have hown : s.vm.findClass RX6 = some m.cls := hown
  have hl : lv_has ls 1 [(0, .int k)] := hl
  refine lv_iload_n hx hb dX6_resistance_0 rfl (lv_at hl 0 rfl) ?_
  by_cases hk_10 : k = 1
  · have hv := hv.1 hk_10
    refine lv_lookup (off := 27) (tgt := 28) hx hb dX6_resistance_1 (by decide) (by rw [hk_10]; decide) (by decide) ?_
    refine lv_iconst (v := 4) hx hb dX6_resistance_28 (by decide) ?_
    exact x_iret (v := 4) () hQ hx hb hr hlocks hS dX6_resistance_29 hv hP hD
  replace hv := hv.2
  by_cases hk_11 : k = 3
  · have hv := hv.1 hk_11
    refine lv_lookup (off := 29) (tgt := 30) hx hb dX6_resistance_1 (by decide) (by rw [hk_11]; decide) (by decide) ?_
    refine lv_iconst (v := 2) hx hb dX6_resistance_30 (by decide) ?_
    exact x_iret (v := 2) () hQ hx hb hr hlocks hS dX6_resistance_31 hv hP hD
  replace hv := hv.2
  have hv := hv ⟨hk_10, hk_11⟩
  refine lv_lookup (off := 31) (tgt := 32) hx hb dX6_resistance_1 (by decide) (Eq.trans (lv_osw (k := 1) hk_10 (by decide)) (Eq.trans (lv_osw (k := 3) hk_11 (by decide)) rfl)) (by decide) ?_
  refine lv_bipush (v := 8) hx hb dX6_resistance_32 (by decide) ?_
  exact x_iret (v := 8) () hQ hx hb hr hlocks hS dX6_resistance_34 hv hP hD
theorem v_X6_resistance (l : Launch) (G : Gt) (sz : Nat) (k : Int32) : (k = 1 → (4 : Int32) = resI k) ∧ (k = 3 → (2 : Int32) = resI k) ∧ (¬ k = 1 ∧ ¬ k = 3 → (8 : Int32) = resI k) := by
  simp_all [resI]
theorem k_X6_resistance (l : Launch) (G : Gt) (sz : Nat) (k : Int32) : MetI l yX6_resistance wsX6_resistance 0 0 G [.int k] [] sz (fun (r : Int32) (_ : Unit) => (r : Int32) = resI k) (fun (_ : Unit) => []) :=
  c_X6_resistance l G  sz k (v_X6_resistance l G  sz k)

set_option maxHeartbeats 4000000 in
set_option maxRecDepth 100000 in
theorem c_X6_flow (l : Launch) (G : Gt) (t t1 t2 t3 t4 t5 t6 : Nat) (sz : Nat) (ns : Int32) (np : Int32) (fu : Int32) (fd : Int32) (fi : Int32) (sz_ : Nat → Int32) (pt : Nat → Int32) (fh : Nat → Int32) (kd : Nat → Int32) (nd : Nat → Int32) (fw : Nat → Int32) (pq : Int32) (b : Int32) (wa : Int32) (he : Int32) (hv : (vp_in pq 8) ∧ ((¬ (resI (kd pq.toNatClampNeg)) = 0) ∧ ((vp_in pq 8) ∧ ((¬ (kd pq.toNatClampNeg) = 2 → (vp_in pq 8) ∧ ((¬ (kd pq.toNatClampNeg) = 3 → (vp_in b 9) ∧ (((if ((sz_ b.toNatClampNeg) - he) < ((wa - he) / (resI (kd pq.toNatClampNeg))) then ((sz_ b.toNatClampNeg) - he) else ((wa - he) / (resI (kd pq.toNatClampNeg)))) : Int32) = flowI (kd pq.toNatClampNeg) (sz_ b.toNatClampNeg) wa he)) ∧ ((kd pq.toNatClampNeg) = 3 → (vp_in b 9) ∧ (((if ((sz_ b.toNatClampNeg) - he) < (if ((wa - he) / (resI (kd pq.toNatClampNeg))) < 0 then 0 else ((wa - he) / (resI (kd pq.toNatClampNeg)))) then ((sz_ b.toNatClampNeg) - he) else (if ((wa - he) / (resI (kd pq.toNatClampNeg))) < 0 then 0 else ((wa - he) / (resI (kd pq.toNatClampNeg))))) : Int32) = flowI (kd pq.toNatClampNeg) (sz_ b.toNatClampNeg) wa he)))) ∧ ((kd pq.toNatClampNeg) = 2 → (vp_in pq 8) ∧ ((¬ (kd pq.toNatClampNeg) = 3 → (vp_in b 9) ∧ (((if ((sz_ b.toNatClampNeg) - he) < (if 0 < ((wa - he) / (resI (kd pq.toNatClampNeg))) then 0 else ((wa - he) / (resI (kd pq.toNatClampNeg)))) then ((sz_ b.toNatClampNeg) - he) else (if 0 < ((wa - he) / (resI (kd pq.toNatClampNeg))) then 0 else ((wa - he) / (resI (kd pq.toNatClampNeg))))) : Int32) = flowI (kd pq.toNatClampNeg) (sz_ b.toNatClampNeg) wa he)) ∧ ((kd pq.toNatClampNeg) = 3 → (vp_in b 9) ∧ (((if ((sz_ b.toNatClampNeg) - he) < (if (if 0 < ((wa - he) / (resI (kd pq.toNatClampNeg))) then 0 else ((wa - he) / (resI (kd pq.toNatClampNeg)))) < 0 then 0 else (if 0 < ((wa - he) / (resI (kd pq.toNatClampNeg))) then 0 else ((wa - he) / (resI (kd pq.toNatClampNeg))))) then ((sz_ b.toNatClampNeg) - he) else (if (if 0 < ((wa - he) / (resI (kd pq.toNatClampNeg))) then 0 else ((wa - he) / (resI (kd pq.toNatClampNeg)))) < 0 then 0 else (if 0 < ((wa - he) / (resI (kd pq.toNatClampNeg))) then 0 else ((wa - he) / (resI (kd pq.toNatClampNeg)))))) : Int32) = flowI (kd pq.toNatClampNeg) (sz_ b.toNatClampNeg) wa he)))))))) : MetI l yX6_flow wsX6_flow 1 20 G [.ref t, .int pq, .int b, .int wa, .int he] [(t, .inr (6, [.int ns, .int np, .int fu, .int fd, .int fi, .ref t1, .ref t2, .ref t3, .ref t4, .ref t5, .ref t6])), aI G t1 9 sz_, aI G t2 9 pt, aI G t3 9 fh, aI G t4 8 kd, aI G t5 8 nd, aI G t6 8 fw] sz (fun (r : Int32) (_ : Unit) => (r : Int32) = flowI (kd pq.toNatClampNeg) (sz_ b.toNatClampNeg) wa he) (fun (_ : Unit) => [(t, .inr (6, [.int ns, .int np, .int fu, .int fd, .int fi, .ref t1, .ref t2, .ref t3, .ref t4, .ref t5, .ref t6])), aI G t1 9 sz_, aI G t2 9 pt, aI G t3 9 fh, aI G t4 8 kd, aI G t5 8 nd, aI G t6 8 fw]) := by
  refine x_startI (cc := cX6_flow) (maxL := 6) (ret := (some .int)) (by decide) rfl (Nat.le_of_ble_eq_true rfl) ?_
  intro p e s m args below meth c A R Q ls hRf hRl hQ C hP hD hS hA hSS hl
  obtain ⟨hx, hb, hr, hml, hown, hts, hlocks, hKK⟩ := C
  have hown : s.vm.findClass RX6 = some m.cls := hown
  have hl : lv_has ls 6 [(0, .ref t), (1, .int pq), (2, .int b), (3, .int wa), (4, .int he)] := hl
  have hinX6 : ∀ w ∈ u_ws RX6 TX6 11, w ∈ wsX6_flow := by decide +kernel
  have kl18 := hts (.fieldLink RX6 18 "WarmStones$Town" "size" "[I") (by decide +kernel)
  have kl28 := hts (.fieldLink RX6 28 "WarmStones$Town" "kind" "[I") (by decide +kernel)
  have kl50 := hts (.methodLink RX6 50 Lib.Math.min.name) (by decide +kernel)
  have kl56 := hts (.methodLink RX6 56 Lib.Math.max.name) (by decide +kernel)
  have km_c_max := hts (.code Lib.Math.max.name Lib.Math.max.code 2 (some .int)) (by decide +kernel)
  have km_c_min := hts (.code Lib.Math.min.name Lib.Math.min.code 2 (some .int)) (by decide +kernel)
  have km_i := hts (.initialized "java/lang/Math") (by decide +kernel)
  have km_s_max := hts (.static Lib.Math.max.name) (by decide +kernel)
  have km_s_min := hts (.static Lib.Math.min.name) (by decide +kernel)
  refine lv_iload_n hx hb dX6_flow_0 rfl (lv_at hl 3 rfl) ?_
  refine lv_iload hx hb dX6_flow_1 (lv_at hl 4 rfl) ?_
  refine lv_isub hx hb dX6_flow_3 ?_
  refine lv_aload_n hx hb dX6_flow_4 rfl (lv_at hl 0 rfl) ?_
  refine va_get (D := G.1) (ci := 6) (v := .ref t4) (C := RX6) (T := TX6) (N := 11) hx hb hts hinX6 hown hKK.1 hP 0 rfl rfl 8 (by decide) kl28 (fun _ h9 => h9) rfl dX6_flow_5 ?_
  refine lv_iload_n hx hb dX6_flow_8 rfl (lv_at hl 1 rfl) ?_
  obtain ⟨hin, hv⟩ := hv
  refine va_iald hx hb hKK.1 hP 4 0 rfl rfl hin dX6_flow_9 ?_
  refine x_calliR (x_runS (As := [.int (kd pq.toNatClampNeg)]) (rest := [.int (wa - he)]) (n := 1) ⟨hx, hb, hml, hown, hts⟩ (k_X6_resistance l G  _ (kd pq.toNatClampNeg)) gX6_flow_X6_resistance rfl (by decide +kernel) ⟨Nat.le_trans (Nat.le_of_ble_eq_true rfl) hRf, Nat.le_trans (Nat.le_of_ble_eq_true rfl) hRl⟩ hKK hSS hS hA hP hD [] (by decide) rfl rfl hl.1 rfl (Nat.le_of_ble_eq_true rfl) dX6_flow_10) hP hD hS hA [] rfl (fun r_1 _ H locs hw hP hS => ?_)
  replace hw := hw.symm; subst hw
  obtain ⟨hne, hv⟩ := hv
  refine lv_idiv hx hb dX6_flow_13 hne ?_
  refine lv_istore (lv' := [(5, .int ((wa - he) / (resI (kd pq.toNatClampNeg)))), (0, .ref t), (1, .int pq), (2, .int b), (3, .int wa), (4, .int he)]) hx hb dX6_flow_14 hl (by decide) rfl (fun ls hl => ?_)
  refine lv_aload_n hx hb dX6_flow_16 rfl (lv_at hl 1 rfl) ?_
  refine va_get (D := G.1) (ci := 6) (v := .ref t4) (C := RX6) (T := TX6) (N := 11) hx hb hts hinX6 hown hKK.1 hP 0 rfl rfl 8 (by decide) kl28 (fun _ h9 => h9) rfl dX6_flow_17 ?_
  refine lv_iload_n hx hb dX6_flow_20 rfl (lv_at hl 2 rfl) ?_
  obtain ⟨hin, hv⟩ := hv
  refine va_iald hx hb hKK.1 hP 4 0 rfl rfl hin dX6_flow_21 ?_
  refine lv_iconst (v := 2) hx hb dX6_flow_22 (by decide) ?_
  refine lv_icmp_ne (tgt := 34) hx hb dX6_flow_23 (by decide) (fun hc_2 => ?_) (fun hc_2 => ?_)
  · have hv := hv.1 hc_2
    refine lv_aload_n hx hb dX6_flow_34 rfl (lv_at hl 1 rfl) ?_
    refine va_get (D := G.1) (ci := 6) (v := .ref t4) (C := RX6) (T := TX6) (N := 11) hx hb hts hinX6 hown hKK.1 hP 0 rfl rfl 8 (by decide) kl28 (fun _ h9 => h9) rfl dX6_flow_35 ?_
    refine lv_iload_n hx hb dX6_flow_38 rfl (lv_at hl 2 rfl) ?_
    obtain ⟨hin, hv⟩ := hv
    refine va_iald hx hb hKK.1 hP 4 0 rfl rfl hin dX6_flow_39 ?_
    refine lv_iconst (v := 3) hx hb dX6_flow_40 (by decide) ?_
    refine lv_icmp_ne (tgt := 52) hx hb dX6_flow_41 (by decide) (fun hc_3 => ?_) (fun hc_3 => ?_)
    · have hv := hv.1 hc_3
      refine lv_iload hx hb dX6_flow_52 (lv_at hl 0 rfl) ?_
      refine lv_aload_n hx hb dX6_flow_54 rfl (lv_at hl 1 rfl) ?_
      refine va_get (D := G.1) (ci := 6) (v := .ref t1) (C := RX6) (T := TX6) (N := 11) hx hb hts hinX6 hown hKK.1 hP 0 rfl rfl 5 (by decide) kl18 (fun _ h9 => h9) rfl dX6_flow_55 ?_
      refine lv_iload_n hx hb dX6_flow_58 rfl (lv_at hl 3 rfl) ?_
      obtain ⟨hin, hv⟩ := hv
      refine va_iald hx hb hKK.1 hP 1 0 rfl rfl hin dX6_flow_59 ?_
      refine lv_iload hx hb dX6_flow_60 (lv_at hl 5 rfl) ?_
      refine lv_isub hx hb dX6_flow_62 ?_
      refine va_mmin hx hb (hml.trans hl.1.symm) hown kl50 km_s_min km_i km_c_min (Nat.le_trans (Nat.le_of_ble_eq_true rfl) hRf) (Nat.le_trans (Nat.le_of_ble_eq_true rfl) hRl) (Nat.zero_le _) (Nat.zero_le _) dX6_flow_63 ?_
      exact x_iret (v := (if ((sz_ b.toNatClampNeg) - he) < ((wa - he) / (resI (kd pq.toNatClampNeg))) then ((sz_ b.toNatClampNeg) - he) else ((wa - he) / (resI (kd pq.toNatClampNeg))))) () hQ hx hb hr hlocks hS dX6_flow_66 hv hP hD
    · have hv := hv.2 hc_3
      refine lv_iload hx hb dX6_flow_44 (lv_at hl 0 rfl) ?_
      refine lv_iconst (v := 0) hx hb dX6_flow_46 (by decide) ?_
      refine va_mmax hx hb (hml.trans hl.1.symm) hown kl56 km_s_max km_i km_c_max (Nat.le_trans (Nat.le_of_ble_eq_true rfl) hRf) (Nat.le_trans (Nat.le_of_ble_eq_true rfl) hRl) (Nat.zero_le _) (Nat.zero_le _) dX6_flow_47 ?_
      refine lv_istore (lv' := [(5, .int (if ((wa - he) / (resI (kd pq.toNatClampNeg))) < 0 then 0 else ((wa - he) / (resI (kd pq.toNatClampNeg))))), (0, .ref t), (1, .int pq), (2, .int b), (3, .int wa), (4, .int he)]) hx hb dX6_flow_50 hl (by decide) rfl (fun ls hl => ?_)
      refine lv_iload hx hb dX6_flow_52 (lv_at hl 0 rfl) ?_
      refine lv_aload_n hx hb dX6_flow_54 rfl (lv_at hl 1 rfl) ?_
      refine va_get (D := G.1) (ci := 6) (v := .ref t1) (C := RX6) (T := TX6) (N := 11) hx hb hts hinX6 hown hKK.1 hP 0 rfl rfl 5 (by decide) kl18 (fun _ h9 => h9) rfl dX6_flow_55 ?_
      refine lv_iload_n hx hb dX6_flow_58 rfl (lv_at hl 3 rfl) ?_
      obtain ⟨hin, hv⟩ := hv
      refine va_iald hx hb hKK.1 hP 1 0 rfl rfl hin dX6_flow_59 ?_
      refine lv_iload hx hb dX6_flow_60 (lv_at hl 5 rfl) ?_
      refine lv_isub hx hb dX6_flow_62 ?_
      refine va_mmin hx hb (hml.trans hl.1.symm) hown kl50 km_s_min km_i km_c_min (Nat.le_trans (Nat.le_of_ble_eq_true rfl) hRf) (Nat.le_trans (Nat.le_of_ble_eq_true rfl) hRl) (Nat.zero_le _) (Nat.zero_le _) dX6_flow_63 ?_
      exact x_iret (v := (if ((sz_ b.toNatClampNeg) - he) < (if ((wa - he) / (resI (kd pq.toNatClampNeg))) < 0 then 0 else ((wa - he) / (resI (kd pq.toNatClampNeg)))) then ((sz_ b.toNatClampNeg) - he) else (if ((wa - he) / (resI (kd pq.toNatClampNeg))) < 0 then 0 else ((wa - he) / (resI (kd pq.toNatClampNeg)))))) () hQ hx hb hr hlocks hS dX6_flow_66 hv hP hD
  · have hv := hv.2 hc_2
    refine lv_iload hx hb dX6_flow_26 (lv_at hl 0 rfl) ?_
    refine lv_iconst (v := 0) hx hb dX6_flow_28 (by decide) ?_
    refine va_mmin hx hb (hml.trans hl.1.symm) hown kl50 km_s_min km_i km_c_min (Nat.le_trans (Nat.le_of_ble_eq_true rfl) hRf) (Nat.le_trans (Nat.le_of_ble_eq_true rfl) hRl) (Nat.zero_le _) (Nat.zero_le _) dX6_flow_29 ?_
    refine lv_istore (lv' := [(5, .int (if 0 < ((wa - he) / (resI (kd pq.toNatClampNeg))) then 0 else ((wa - he) / (resI (kd pq.toNatClampNeg))))), (0, .ref t), (1, .int pq), (2, .int b), (3, .int wa), (4, .int he)]) hx hb dX6_flow_32 hl (by decide) rfl (fun ls hl => ?_)
    refine lv_aload_n hx hb dX6_flow_34 rfl (lv_at hl 1 rfl) ?_
    refine va_get (D := G.1) (ci := 6) (v := .ref t4) (C := RX6) (T := TX6) (N := 11) hx hb hts hinX6 hown hKK.1 hP 0 rfl rfl 8 (by decide) kl28 (fun _ h9 => h9) rfl dX6_flow_35 ?_
    refine lv_iload_n hx hb dX6_flow_38 rfl (lv_at hl 2 rfl) ?_
    obtain ⟨hin, hv⟩ := hv
    refine va_iald hx hb hKK.1 hP 4 0 rfl rfl hin dX6_flow_39 ?_
    refine lv_iconst (v := 3) hx hb dX6_flow_40 (by decide) ?_
    refine lv_icmp_ne (tgt := 52) hx hb dX6_flow_41 (by decide) (fun hc_4 => ?_) (fun hc_4 => ?_)
    · have hv := hv.1 hc_4
      refine lv_iload hx hb dX6_flow_52 (lv_at hl 0 rfl) ?_
      refine lv_aload_n hx hb dX6_flow_54 rfl (lv_at hl 1 rfl) ?_
      refine va_get (D := G.1) (ci := 6) (v := .ref t1) (C := RX6) (T := TX6) (N := 11) hx hb hts hinX6 hown hKK.1 hP 0 rfl rfl 5 (by decide) kl18 (fun _ h9 => h9) rfl dX6_flow_55 ?_
      refine lv_iload_n hx hb dX6_flow_58 rfl (lv_at hl 3 rfl) ?_
      obtain ⟨hin, hv⟩ := hv
      refine va_iald hx hb hKK.1 hP 1 0 rfl rfl hin dX6_flow_59 ?_
      refine lv_iload hx hb dX6_flow_60 (lv_at hl 5 rfl) ?_
      refine lv_isub hx hb dX6_flow_62 ?_
      refine va_mmin hx hb (hml.trans hl.1.symm) hown kl50 km_s_min km_i km_c_min (Nat.le_trans (Nat.le_of_ble_eq_true rfl) hRf) (Nat.le_trans (Nat.le_of_ble_eq_true rfl) hRl) (Nat.zero_le _) (Nat.zero_le _) dX6_flow_63 ?_
      exact x_iret (v := (if ((sz_ b.toNatClampNeg) - he) < (if 0 < ((wa - he) / (resI (kd pq.toNatClampNeg))) then 0 else ((wa - he) / (resI (kd pq.toNatClampNeg)))) then ((sz_ b.toNatClampNeg) - he) else (if 0 < ((wa - he) / (resI (kd pq.toNatClampNeg))) then 0 else ((wa - he) / (resI (kd pq.toNatClampNeg)))))) () hQ hx hb hr hlocks hS dX6_flow_66 hv hP hD
    · have hv := hv.2 hc_4
      refine lv_iload hx hb dX6_flow_44 (lv_at hl 0 rfl) ?_
      refine lv_iconst (v := 0) hx hb dX6_flow_46 (by decide) ?_
      refine va_mmax hx hb (hml.trans hl.1.symm) hown kl56 km_s_max km_i km_c_max (Nat.le_trans (Nat.le_of_ble_eq_true rfl) hRf) (Nat.le_trans (Nat.le_of_ble_eq_true rfl) hRl) (Nat.zero_le _) (Nat.zero_le _) dX6_flow_47 ?_
      refine lv_istore (lv' := [(5, .int (if (if 0 < ((wa - he) / (resI (kd pq.toNatClampNeg))) then 0 else ((wa - he) / (resI (kd pq.toNatClampNeg)))) < 0 then 0 else (if 0 < ((wa - he) / (resI (kd pq.toNatClampNeg))) then 0 else ((wa - he) / (resI (kd pq.toNatClampNeg)))))), (0, .ref t), (1, .int pq), (2, .int b), (3, .int wa), (4, .int he)]) hx hb dX6_flow_50 hl (by decide) rfl (fun ls hl => ?_)
      refine lv_iload hx hb dX6_flow_52 (lv_at hl 0 rfl) ?_
      refine lv_aload_n hx hb dX6_flow_54 rfl (lv_at hl 1 rfl) ?_
      refine va_get (D := G.1) (ci := 6) (v := .ref t1) (C := RX6) (T := TX6) (N := 11) hx hb hts hinX6 hown hKK.1 hP 0 rfl rfl 5 (by decide) kl18 (fun _ h9 => h9) rfl dX6_flow_55 ?_
      refine lv_iload_n hx hb dX6_flow_58 rfl (lv_at hl 3 rfl) ?_
      obtain ⟨hin, hv⟩ := hv
      refine va_iald hx hb hKK.1 hP 1 0 rfl rfl hin dX6_flow_59 ?_
      refine lv_iload hx hb dX6_flow_60 (lv_at hl 5 rfl) ?_
      refine lv_isub hx hb dX6_flow_62 ?_
      refine va_mmin hx hb (hml.trans hl.1.symm) hown kl50 km_s_min km_i km_c_min (Nat.le_trans (Nat.le_of_ble_eq_true rfl) hRf) (Nat.le_trans (Nat.le_of_ble_eq_true rfl) hRl) (Nat.zero_le _) (Nat.zero_le _) dX6_flow_63 ?_
      exact x_iret (v := (if ((sz_ b.toNatClampNeg) - he) < (if (if 0 < ((wa - he) / (resI (kd pq.toNatClampNeg))) then 0 else ((wa - he) / (resI (kd pq.toNatClampNeg)))) < 0 then 0 else (if 0 < ((wa - he) / (resI (kd pq.toNatClampNeg))) then 0 else ((wa - he) / (resI (kd pq.toNatClampNeg))))) then ((sz_ b.toNatClampNeg) - he) else (if (if 0 < ((wa - he) / (resI (kd pq.toNatClampNeg))) then 0 else ((wa - he) / (resI (kd pq.toNatClampNeg)))) < 0 then 0 else (if 0 < ((wa - he) / (resI (kd pq.toNatClampNeg))) then 0 else ((wa - he) / (resI (kd pq.toNatClampNeg))))))) () hQ hx hb hr hlocks hS dX6_flow_66 hv hP hD
theorem v_X6_flow (l : Launch) (G : Gt) (t t1 t2 t3 t4 t5 t6 : Nat) (sz : Nat) (ns : Int32) (np : Int32) (fu : Int32) (fd : Int32) (fi : Int32) (sz_ : Nat → Int32) (pt : Nat → Int32) (fh : Nat → Int32) (kd : Nat → Int32) (nd : Nat → Int32) (fw : Nat → Int32) (pq : Int32) (b : Int32) (wa : Int32) (he : Int32) (hp : vp_in pq 8 ∧ vp_in b 9) : (vp_in pq 8) ∧ ((¬ (resI (kd pq.toNatClampNeg)) = 0) ∧ ((vp_in pq 8) ∧ ((¬ (kd pq.toNatClampNeg) = 2 → (vp_in pq 8) ∧ ((¬ (kd pq.toNatClampNeg) = 3 → (vp_in b 9) ∧ (((if ((sz_ b.toNatClampNeg) - he) < ((wa - he) / (resI (kd pq.toNatClampNeg))) then ((sz_ b.toNatClampNeg) - he) else ((wa - he) / (resI (kd pq.toNatClampNeg)))) : Int32) = flowI (kd pq.toNatClampNeg) (sz_ b.toNatClampNeg) wa he)) ∧ ((kd pq.toNatClampNeg) = 3 → (vp_in b 9) ∧ (((if ((sz_ b.toNatClampNeg) - he) < (if ((wa - he) / (resI (kd pq.toNatClampNeg))) < 0 then 0 else ((wa - he) / (resI (kd pq.toNatClampNeg)))) then ((sz_ b.toNatClampNeg) - he) else (if ((wa - he) / (resI (kd pq.toNatClampNeg))) < 0 then 0 else ((wa - he) / (resI (kd pq.toNatClampNeg))))) : Int32) = flowI (kd pq.toNatClampNeg) (sz_ b.toNatClampNeg) wa he)))) ∧ ((kd pq.toNatClampNeg) = 2 → (vp_in pq 8) ∧ ((¬ (kd pq.toNatClampNeg) = 3 → (vp_in b 9) ∧ (((if ((sz_ b.toNatClampNeg) - he) < (if 0 < ((wa - he) / (resI (kd pq.toNatClampNeg))) then 0 else ((wa - he) / (resI (kd pq.toNatClampNeg)))) then ((sz_ b.toNatClampNeg) - he) else (if 0 < ((wa - he) / (resI (kd pq.toNatClampNeg))) then 0 else ((wa - he) / (resI (kd pq.toNatClampNeg))))) : Int32) = flowI (kd pq.toNatClampNeg) (sz_ b.toNatClampNeg) wa he)) ∧ ((kd pq.toNatClampNeg) = 3 → (vp_in b 9) ∧ (((if ((sz_ b.toNatClampNeg) - he) < (if (if 0 < ((wa - he) / (resI (kd pq.toNatClampNeg))) then 0 else ((wa - he) / (resI (kd pq.toNatClampNeg)))) < 0 then 0 else (if 0 < ((wa - he) / (resI (kd pq.toNatClampNeg))) then 0 else ((wa - he) / (resI (kd pq.toNatClampNeg))))) then ((sz_ b.toNatClampNeg) - he) else (if (if 0 < ((wa - he) / (resI (kd pq.toNatClampNeg))) then 0 else ((wa - he) / (resI (kd pq.toNatClampNeg)))) < 0 then 0 else (if 0 < ((wa - he) / (resI (kd pq.toNatClampNeg))) then 0 else ((wa - he) / (resI (kd pq.toNatClampNeg)))))) : Int32) = flowI (kd pq.toNatClampNeg) (sz_ b.toNatClampNeg) wa he))))))) := by
  obtain ⟨h1, h2⟩ := hp
  simp only [h1, h2, resI_ne, not_false_eq_true, true_and]
  unfold flowI
  simp_all
theorem k_X6_flow (l : Launch) (G : Gt) (t t1 t2 t3 t4 t5 t6 : Nat) (sz : Nat) (ns : Int32) (np : Int32) (fu : Int32) (fd : Int32) (fi : Int32) (sz_ : Nat → Int32) (pt : Nat → Int32) (fh : Nat → Int32) (kd : Nat → Int32) (nd : Nat → Int32) (fw : Nat → Int32) (pq : Int32) (b : Int32) (wa : Int32) (he : Int32) (hp : vp_in pq 8 ∧ vp_in b 9) : MetI l yX6_flow wsX6_flow 1 20 G [.ref t, .int pq, .int b, .int wa, .int he] [(t, .inr (6, [.int ns, .int np, .int fu, .int fd, .int fi, .ref t1, .ref t2, .ref t3, .ref t4, .ref t5, .ref t6])), aI G t1 9 sz_, aI G t2 9 pt, aI G t3 9 fh, aI G t4 8 kd, aI G t5 8 nd, aI G t6 8 fw] sz (fun (r : Int32) (_ : Unit) => (r : Int32) = flowI (kd pq.toNatClampNeg) (sz_ b.toNatClampNeg) wa he) (fun (_ : Unit) => [(t, .inr (6, [.int ns, .int np, .int fu, .int fd, .int fi, .ref t1, .ref t2, .ref t3, .ref t4, .ref t5, .ref t6])), aI G t1 9 sz_, aI G t2 9 pt, aI G t3 9 fh, aI G t4 8 kd, aI G t5 8 nd, aI G t6 8 fw]) :=
  c_X6_flow l G t t1 t2 t3 t4 t5 t6 sz ns np fu fd fi sz_ pt fh kd nd fw pq b wa he (v_X6_flow l G t t1 t2 t3 t4 t5 t6 sz ns np fu fd fi sz_ pt fh kd nd fw pq b wa he hp)

set_option maxHeartbeats 4000000 in
set_option maxRecDepth 100000 in
theorem c_X6_frostOn (l : Launch) (G : Gt) (t t1 t2 t3 t4 t5 t6 : Nat) (sz : Nat) (ns : Int32) (np : Int32) (fu : Int32) (fd : Int32) (fi : Int32) (sz_ : Nat → Int32) (pt : Nat → Int32) (fh : Nat → Int32) (kd : Nat → Int32) (nd : Nat → Int32) (fw : Nat → Int32) (pq : Int32) (sits : Int32) (hv : (vp_in pq 8) ∧ ((¬ (kd pq.toNatClampNeg) = 4 → (sits = 0 → (fu : Int32) = frostI (kd pq.toNatClampNeg) fu fd sits) ∧ (¬ (sits = 0) → (fd : Int32) = frostI (kd pq.toNatClampNeg) fu fd sits)) ∧ ((kd pq.toNatClampNeg) = 4 → ((fu / 2) : Int32) = frostI (kd pq.toNatClampNeg) fu fd sits))) : MetI l yX6_frostOn wsX6_frostOn 0 0 G [.ref t, .int pq, .int sits] [(t, .inr (6, [.int ns, .int np, .int fu, .int fd, .int fi, .ref t1, .ref t2, .ref t3, .ref t4, .ref t5, .ref t6])), aI G t1 9 sz_, aI G t2 9 pt, aI G t3 9 fh, aI G t4 8 kd, aI G t5 8 nd, aI G t6 8 fw] sz (fun (r : Int32) (_ : Unit) => (r : Int32) = frostI (kd pq.toNatClampNeg) fu fd sits) (fun (_ : Unit) => [(t, .inr (6, [.int ns, .int np, .int fu, .int fd, .int fi, .ref t1, .ref t2, .ref t3, .ref t4, .ref t5, .ref t6])), aI G t1 9 sz_, aI G t2 9 pt, aI G t3 9 fh, aI G t4 8 kd, aI G t5 8 nd, aI G t6 8 fw]) := by
  refine x_startI (cc := cX6_frostOn) (maxL := 3) (ret := (some .int)) (by decide) rfl (Nat.le_of_ble_eq_true rfl) ?_
  intro p e s m args below meth c A R Q ls hRf hRl hQ C hP hD hS hA hSS hl
  obtain ⟨hx, hb, hr, hml, hown, hts, hlocks, hKK⟩ := C
  have hown : s.vm.findClass RX6 = some m.cls := hown
  have hl : lv_has ls 3 [(0, .ref t), (1, .int pq), (2, .int sits)] := hl
  have hinX6 : ∀ w ∈ u_ws RX6 TX6 11, w ∈ wsX6_frostOn := by decide +kernel
  have kl15 := hts (.fieldLink RX6 15 "WarmStones$Town" "frostSitting" "I") (by decide +kernel)
  have kl28 := hts (.fieldLink RX6 28 "WarmStones$Town" "kind" "[I") (by decide +kernel)
  have kl9 := hts (.fieldLink RX6 9 "WarmStones$Town" "frostStanding" "I") (by decide +kernel)
  refine lv_aload_n hx hb dX6_frostOn_0 rfl (lv_at hl 0 rfl) ?_
  refine va_get (D := G.1) (ci := 6) (v := .ref t4) (C := RX6) (T := TX6) (N := 11) hx hb hts hinX6 hown hKK.1 hP 0 rfl rfl 8 (by decide) kl28 (fun _ h9 => h9) rfl dX6_frostOn_1 ?_
  refine lv_iload_n hx hb dX6_frostOn_4 rfl (lv_at hl 1 rfl) ?_
  obtain ⟨hin, hv⟩ := hv
  refine va_iald hx hb hKK.1 hP 4 0 rfl rfl hin dX6_frostOn_5 ?_
  refine lv_iconst (v := 4) hx hb dX6_frostOn_6 (by decide) ?_
  refine lv_icmp_ne (tgt := 17) hx hb dX6_frostOn_7 (by decide) (fun hc_1 => ?_) (fun hc_1 => ?_)
  · have hv := hv.1 hc_1
    refine lv_iload_n hx hb dX6_frostOn_17 rfl (lv_at hl 2 rfl) ?_
    refine lv_if_eq (tgt := 28) hx hb dX6_frostOn_18 (by decide) (fun hc_2 => ?_) (fun hc_2 => ?_)
    · have hv := hv.1 hc_2
      refine lv_aload_n hx hb dX6_frostOn_28 rfl (lv_at hl 0 rfl) ?_
      refine va_get (D := G.1) (ci := 6) (v := .int fu) (C := RX6) (T := TX6) (N := 11) hx hb hts hinX6 hown hKK.1 hP 0 rfl rfl 2 (by decide) kl9 (fun _ h9 => h9) rfl dX6_frostOn_29 ?_
      exact x_iret (v := fu) () hQ hx hb hr hlocks hS dX6_frostOn_32 hv hP hD
    · have hv := hv.2 hc_2
      refine lv_aload_n hx hb dX6_frostOn_21 rfl (lv_at hl 0 rfl) ?_
      refine va_get (D := G.1) (ci := 6) (v := .int fd) (C := RX6) (T := TX6) (N := 11) hx hb hts hinX6 hown hKK.1 hP 0 rfl rfl 3 (by decide) kl15 (fun _ h9 => h9) rfl dX6_frostOn_22 ?_
      refine lv_goto (tgt := 32) hx hb dX6_frostOn_25 (by decide) ?_
      exact x_iret (v := fd) () hQ hx hb hr hlocks hS dX6_frostOn_32 hv hP hD
  · have hv := hv.2 hc_1
    refine lv_aload_n hx hb dX6_frostOn_10 rfl (lv_at hl 0 rfl) ?_
    refine va_get (D := G.1) (ci := 6) (v := .int fu) (C := RX6) (T := TX6) (N := 11) hx hb hts hinX6 hown hKK.1 hP 0 rfl rfl 2 (by decide) kl9 (fun _ h9 => h9) rfl dX6_frostOn_11 ?_
    refine lv_iconst (v := 2) hx hb dX6_frostOn_14 (by decide) ?_
    refine lv_idiv hx hb dX6_frostOn_15 (by decide) ?_
    exact x_iret (v := (fu / 2)) () hQ hx hb hr hlocks hS dX6_frostOn_16 hv hP hD
theorem v_X6_frostOn (l : Launch) (G : Gt) (t t1 t2 t3 t4 t5 t6 : Nat) (sz : Nat) (ns : Int32) (np : Int32) (fu : Int32) (fd : Int32) (fi : Int32) (sz_ : Nat → Int32) (pt : Nat → Int32) (fh : Nat → Int32) (kd : Nat → Int32) (nd : Nat → Int32) (fw : Nat → Int32) (pq : Int32) (sits : Int32) (hp : vp_in pq 8) : (vp_in pq 8) ∧ ((¬ (kd pq.toNatClampNeg) = 4 → (sits = 0 → (fu : Int32) = frostI (kd pq.toNatClampNeg) fu fd sits) ∧ (¬ (sits = 0) → (fd : Int32) = frostI (kd pq.toNatClampNeg) fu fd sits)) ∧ ((kd pq.toNatClampNeg) = 4 → ((fu / 2) : Int32) = frostI (kd pq.toNatClampNeg) fu fd sits)) := by
  simp_all [frostI]
theorem k_X6_frostOn (l : Launch) (G : Gt) (t t1 t2 t3 t4 t5 t6 : Nat) (sz : Nat) (ns : Int32) (np : Int32) (fu : Int32) (fd : Int32) (fi : Int32) (sz_ : Nat → Int32) (pt : Nat → Int32) (fh : Nat → Int32) (kd : Nat → Int32) (nd : Nat → Int32) (fw : Nat → Int32) (pq : Int32) (sits : Int32) (hp : vp_in pq 8) : MetI l yX6_frostOn wsX6_frostOn 0 0 G [.ref t, .int pq, .int sits] [(t, .inr (6, [.int ns, .int np, .int fu, .int fd, .int fi, .ref t1, .ref t2, .ref t3, .ref t4, .ref t5, .ref t6])), aI G t1 9 sz_, aI G t2 9 pt, aI G t3 9 fh, aI G t4 8 kd, aI G t5 8 nd, aI G t6 8 fw] sz (fun (r : Int32) (_ : Unit) => (r : Int32) = frostI (kd pq.toNatClampNeg) fu fd sits) (fun (_ : Unit) => [(t, .inr (6, [.int ns, .int np, .int fu, .int fd, .int fi, .ref t1, .ref t2, .ref t3, .ref t4, .ref t5, .ref t6])), aI G t1 9 sz_, aI G t2 9 pt, aI G t3 9 fh, aI G t4 8 kd, aI G t5 8 nd, aI G t6 8 fw]) :=
  c_X6_frostOn l G t t1 t2 t3 t4 t5 t6 sz ns np fu fd fi sz_ pt fh kd nd fw pq sits (v_X6_frostOn l G t t1 t2 t3 t4 t5 t6 sz ns np fu fd fi sz_ pt fh kd nd fw pq sits hp)

set_option maxHeartbeats 4000000 in
set_option maxRecDepth 100000 in
theorem c_X6_lossOfEmpty (l : Launch) (G : Gt) (t t1 t2 t3 t4 t5 t6 : Nat) (sz : Nat) (ns : Int32) (np : Int32) (fu : Int32) (fd : Int32) (fi : Int32) (sz_ : Nat → Int32) (pt : Nat → Int32) (fh : Nat → Int32) (kd : Nat → Int32) (nd : Nat → Int32) (fw : Nat → Int32) (b : Int32) (he : Int32) (hv : (he ≤ 0 → (0 : Int32) = lossI (pt b.toNatClampNeg) he) ∧ (¬ (he ≤ 0) → (vp_in b 9) ∧ ((0 < (pt b.toNatClampNeg) → (vp_in b 9) ∧ ((¬ (pt b.toNatClampNeg) = 0) ∧ (((if 1 < (he / (pt b.toNatClampNeg)) then (he / (pt b.toNatClampNeg)) else 1) : Int32) = lossI (pt b.toNatClampNeg) he))) ∧ (¬ (0 < (pt b.toNatClampNeg)) → (0 : Int32) = lossI (pt b.toNatClampNeg) he)))) : MetI l yX6_lossOfEmpty wsX6_lossOfEmpty 1 13 G [.ref t, .int b, .int he] [(t, .inr (6, [.int ns, .int np, .int fu, .int fd, .int fi, .ref t1, .ref t2, .ref t3, .ref t4, .ref t5, .ref t6])), aI G t1 9 sz_, aI G t2 9 pt, aI G t3 9 fh, aI G t4 8 kd, aI G t5 8 nd, aI G t6 8 fw] sz (fun (r : Int32) (_ : Unit) => (r : Int32) = lossI (pt b.toNatClampNeg) he) (fun (_ : Unit) => [(t, .inr (6, [.int ns, .int np, .int fu, .int fd, .int fi, .ref t1, .ref t2, .ref t3, .ref t4, .ref t5, .ref t6])), aI G t1 9 sz_, aI G t2 9 pt, aI G t3 9 fh, aI G t4 8 kd, aI G t5 8 nd, aI G t6 8 fw]) := by
  refine x_startI (cc := cX6_lossOfEmpty) (maxL := 3) (ret := (some .int)) (by decide) rfl (Nat.le_of_ble_eq_true rfl) ?_
  intro p e s m args below meth c A R Q ls hRf hRl hQ C hP hD hS hA hSS hl
  obtain ⟨hx, hb, hr, hml, hown, hts, hlocks, hKK⟩ := C
  have hown : s.vm.findClass RX6 = some m.cls := hown
  have hl : lv_has ls 3 [(0, .ref t), (1, .int b), (2, .int he)] := hl
  have hinX6 : ∀ w ∈ u_ws RX6 TX6 11, w ∈ wsX6_lossOfEmpty := by decide +kernel
  have kl22 := hts (.fieldLink RX6 22 "WarmStones$Town" "part" "[I") (by decide +kernel)
  have kl56 := hts (.methodLink RX6 56 Lib.Math.max.name) (by decide +kernel)
  have km_c_max := hts (.code Lib.Math.max.name Lib.Math.max.code 2 (some .int)) (by decide +kernel)
  have km_i := hts (.initialized "java/lang/Math") (by decide +kernel)
  have km_s_max := hts (.static Lib.Math.max.name) (by decide +kernel)
  refine lv_iload_n hx hb dX6_lossOfEmpty_0 rfl (lv_at hl 2 rfl) ?_
  refine lv_if_le (tgt := 13) hx hb dX6_lossOfEmpty_1 (by decide) (fun hc_1 => ?_) (fun hc_1 => ?_)
  · have hv := hv.1 hc_1
    refine lv_iconst (v := 0) hx hb dX6_lossOfEmpty_13 (by decide) ?_
    exact x_iret (v := 0) () hQ hx hb hr hlocks hS dX6_lossOfEmpty_14 hv hP hD
  · have hv := hv.2 hc_1
    refine lv_aload_n hx hb dX6_lossOfEmpty_4 rfl (lv_at hl 0 rfl) ?_
    refine va_get (D := G.1) (ci := 6) (v := .ref t2) (C := RX6) (T := TX6) (N := 11) hx hb hts hinX6 hown hKK.1 hP 0 rfl rfl 6 (by decide) kl22 (fun _ h9 => h9) rfl dX6_lossOfEmpty_5 ?_
    refine lv_iload_n hx hb dX6_lossOfEmpty_8 rfl (lv_at hl 1 rfl) ?_
    obtain ⟨hin, hv⟩ := hv
    refine va_iald hx hb hKK.1 hP 2 0 rfl rfl hin dX6_lossOfEmpty_9 ?_
    refine lv_if_gt (tgt := 15) hx hb dX6_lossOfEmpty_10 (by decide) (fun hc_2 => ?_) (fun hc_2 => ?_)
    · have hv := hv.1 hc_2
      refine lv_iconst (v := 1) hx hb dX6_lossOfEmpty_15 (by decide) ?_
      refine lv_iload_n hx hb dX6_lossOfEmpty_16 rfl (lv_at hl 2 rfl) ?_
      refine lv_aload_n hx hb dX6_lossOfEmpty_17 rfl (lv_at hl 0 rfl) ?_
      refine va_get (D := G.1) (ci := 6) (v := .ref t2) (C := RX6) (T := TX6) (N := 11) hx hb hts hinX6 hown hKK.1 hP 0 rfl rfl 6 (by decide) kl22 (fun _ h9 => h9) rfl dX6_lossOfEmpty_18 ?_
      refine lv_iload_n hx hb dX6_lossOfEmpty_21 rfl (lv_at hl 1 rfl) ?_
      obtain ⟨hin, hv⟩ := hv
      refine va_iald hx hb hKK.1 hP 2 0 rfl rfl hin dX6_lossOfEmpty_22 ?_
      obtain ⟨hne, hv⟩ := hv
      refine lv_idiv hx hb dX6_lossOfEmpty_23 hne ?_
      refine va_mmax hx hb (hml.trans hl.1.symm) hown kl56 km_s_max km_i km_c_max (Nat.le_trans (Nat.le_of_ble_eq_true rfl) hRf) (Nat.le_trans (Nat.le_of_ble_eq_true rfl) hRl) (Nat.zero_le _) (Nat.zero_le _) dX6_lossOfEmpty_24 ?_
      exact x_iret (v := (if 1 < (he / (pt b.toNatClampNeg)) then (he / (pt b.toNatClampNeg)) else 1)) () hQ hx hb hr hlocks hS dX6_lossOfEmpty_27 hv hP hD
    · have hv := hv.2 hc_2
      refine lv_iconst (v := 0) hx hb dX6_lossOfEmpty_13 (by decide) ?_
      exact x_iret (v := 0) () hQ hx hb hr hlocks hS dX6_lossOfEmpty_14 hv hP hD
theorem v_X6_lossOfEmpty (l : Launch) (G : Gt) (t t1 t2 t3 t4 t5 t6 : Nat) (sz : Nat) (ns : Int32) (np : Int32) (fu : Int32) (fd : Int32) (fi : Int32) (sz_ : Nat → Int32) (pt : Nat → Int32) (fh : Nat → Int32) (kd : Nat → Int32) (nd : Nat → Int32) (fw : Nat → Int32) (b : Int32) (he : Int32) (hp : vp_in b 9) : (he ≤ 0 → (0 : Int32) = lossI (pt b.toNatClampNeg) he) ∧ (¬ (he ≤ 0) → (vp_in b 9) ∧ ((0 < (pt b.toNatClampNeg) → (vp_in b 9) ∧ ((¬ (pt b.toNatClampNeg) = 0) ∧ (((if 1 < (he / (pt b.toNatClampNeg)) then (he / (pt b.toNatClampNeg)) else 1) : Int32) = lossI (pt b.toNatClampNeg) he))) ∧ (¬ (0 < (pt b.toNatClampNeg)) → (0 : Int32) = lossI (pt b.toNatClampNeg) he))) := by
  unfold lossI
  refine ⟨fun h => by rw [if_pos h], fun h => ⟨hp, fun h2 => ⟨hp, ?_, ?_⟩, fun h2 => ?_⟩⟩
  · intro q; rw [q] at h2; exact absurd h2 (by decide)
  · rw [if_neg h, if_neg (Int32.not_le.mpr h2)]
  · rw [if_neg h, if_pos (Int32.not_lt.mp h2)]
theorem k_X6_lossOfEmpty (l : Launch) (G : Gt) (t t1 t2 t3 t4 t5 t6 : Nat) (sz : Nat) (ns : Int32) (np : Int32) (fu : Int32) (fd : Int32) (fi : Int32) (sz_ : Nat → Int32) (pt : Nat → Int32) (fh : Nat → Int32) (kd : Nat → Int32) (nd : Nat → Int32) (fw : Nat → Int32) (b : Int32) (he : Int32) (hp : vp_in b 9) : MetI l yX6_lossOfEmpty wsX6_lossOfEmpty 1 13 G [.ref t, .int b, .int he] [(t, .inr (6, [.int ns, .int np, .int fu, .int fd, .int fi, .ref t1, .ref t2, .ref t3, .ref t4, .ref t5, .ref t6])), aI G t1 9 sz_, aI G t2 9 pt, aI G t3 9 fh, aI G t4 8 kd, aI G t5 8 nd, aI G t6 8 fw] sz (fun (r : Int32) (_ : Unit) => (r : Int32) = lossI (pt b.toNatClampNeg) he) (fun (_ : Unit) => [(t, .inr (6, [.int ns, .int np, .int fu, .int fd, .int fi, .ref t1, .ref t2, .ref t3, .ref t4, .ref t5, .ref t6])), aI G t1 9 sz_, aI G t2 9 pt, aI G t3 9 fh, aI G t4 8 kd, aI G t5 8 nd, aI G t6 8 fw]) :=
  c_X6_lossOfEmpty l G t t1 t2 t3 t4 t5 t6 sz ns np fu fd fi sz_ pt fh kd nd fw b he (v_X6_lossOfEmpty l G t t1 t2 t3 t4 t5 t6 sz ns np fu fd fi sz_ pt fh kd nd fw b he hp)

set_option maxHeartbeats 4000000 in
set_option maxRecDepth 100000 in
theorem c_X6_heatLeft (l : Launch) (G : Gt) (t t1 t2 t3 t4 t5 t6 : Nat) (sz : Nat) (ns : Int32) (np : Int32) (fu : Int32) (fd : Int32) (fi : Int32) (sz_ : Nat → Int32) (pt : Nat → Int32) (fh : Nat → Int32) (kd : Nat → Int32) (nd : Nat → Int32) (fw : Nat → Int32) (b : Int32) (he : Int32) (mi : Int32) (T : Nat → Nat → Int) (Ns : Nat) (Np : Nat) (ib : Nat) (kq : Nat) (Hh : Int) (hv : ∃ (I6_3 : Int32 → Int32 → Prop) (μ6_4 : Int32 → Int32 → Nat), I6_3 he 0 ∧ (∀ (x4_1 : Int32) (x5_2 : Int32), I6_3 x4_1 x5_2 → (mi ≤ x5_2 → x4_1.toInt = zLos T ib Hh kq) ∧ (¬ (mi ≤ x5_2) → (vp_in b 9) ∧ (I6_3 (x4_1 - (lossI (pt b.toNatClampNeg) x4_1)) (x5_2 + 1) ∧ μ6_4 (x4_1 - (lossI (pt b.toNatClampNeg) x4_1)) (x5_2 + 1) < μ6_4 x4_1 x5_2)))) : MetI l yX6_heatLeft wsX6_heatLeft 2 35 G [.ref t, .int b, .int he, .int mi] [(t, .inr (6, [.int ns, .int np, .int fu, .int fd, .int fi, .ref t1, .ref t2, .ref t3, .ref t4, .ref t5, .ref t6])), aI G t1 9 sz_, aI G t2 9 pt, aI G t3 9 fh, aI G t4 8 kd, aI G t5 8 nd, aI G t6 8 fw] sz (fun (r : Int32) (_ : Unit) => r.toInt = zLos T ib Hh kq) (fun (_ : Unit) => [(t, .inr (6, [.int ns, .int np, .int fu, .int fd, .int fi, .ref t1, .ref t2, .ref t3, .ref t4, .ref t5, .ref t6])), aI G t1 9 sz_, aI G t2 9 pt, aI G t3 9 fh, aI G t4 8 kd, aI G t5 8 nd, aI G t6 8 fw]) := by
  refine x_startI (cc := cX6_heatLeft) (maxL := 6) (ret := (some .int)) (by decide) rfl (Nat.le_of_ble_eq_true rfl) ?_
  intro p e s m args below meth c A R Q ls hRf hRl hQ C hP hD hS hA hSS hl
  obtain ⟨hx, hb, hr, hml, hown, hts, hlocks, hKK⟩ := C
  have hown : s.vm.findClass RX6 = some m.cls := hown
  have hl : lv_has ls 6 [(0, .ref t), (1, .int b), (2, .int he), (3, .int mi)] := hl
  refine lv_iload_n hx hb dX6_heatLeft_0 rfl (lv_at hl 2 rfl) ?_
  refine lv_istore (lv' := [(4, .int he), (0, .ref t), (1, .int b), (2, .int he), (3, .int mi)]) hx hb dX6_heatLeft_1 hl (by decide) rfl (fun ls hl => ?_)
  refine lv_iconst (v := 0) hx hb dX6_heatLeft_3 (by decide) ?_
  refine lv_istore (lv' := [(5, .int 0), (4, .int he), (0, .ref t), (1, .int b), (2, .int he), (3, .int mi)]) hx hb dX6_heatLeft_4 hl (by decide) rfl (fun ls hl => ?_)
  obtain ⟨I6_3, μ6_4, hi0, hs_9⟩ := hv
  have Lm_11 : ∀ (n_10 : Nat) (x4_1 : Int32) (x5_2 : Int32) (H : Heap) (locs : List Loc) (ls : Array Slot), μ6_4 x4_1 x5_2 < n_10 → I6_3 x4_1 x5_2 → va_P G.1 vwCl [(t, .inr (6, [.int ns, .int np, .int fu, .int fd, .int fi, .ref t1, .ref t2, .ref t3, .ref t4, .ref t5, .ref t6])), aI G t1 9 sz_, aI G t2 9 pt, aI G t3 9 fh, aI G t4 8 kd, aI G t5 8 nd, aI G t6 8 fw] H → va_D A [(t, .inr (6, [.int ns, .int np, .int fu, .int fd, .int fi, .ref t1, .ref t2, .ref t3, .ref t4, .ref t5, .ref t6])), aI G t1 9 sz_, aI G t2 9 pt, aI G t3 9 fh, aI G t4 8 kd, aI G t5 8 nd, aI G t6 8 fw] → va_S A s.heap H locs → lv_has ls 6 [(5, .int x5_2), (4, .int x4_1), (0, .ref t), (1, .int b), (2, .int he), (3, .int mi)] → W p l e R s m args below meth c H locs 0 0 Q (F0 m 6 ls []) := by
    intro n_10
    induction n_10 with
    | zero => intro x4_1 x5_2 H locs ls hm; exact absurd hm (Nat.not_lt_zero _)
    | succ n_10 ih_5 =>
      intro x4_1 x5_2 H locs ls hI_6 hi hP hD hS hl
      have hv := hs_9 x4_1 x5_2 hi
      refine lv_iload hx hb dX6_heatLeft_6 (lv_at hl 0 rfl) ?_
      refine lv_iload_n hx hb dX6_heatLeft_8 rfl (lv_at hl 5 rfl) ?_
      refine lv_icmp_ge (tgt := 30) hx hb dX6_heatLeft_9 (by decide) (fun hc_7 => ?_) (fun hc_7 => ?_)
      · have hv := hv.1 hc_7
        refine lv_iload hx hb dX6_heatLeft_30 (lv_at hl 1 rfl) ?_
        exact x_iret (v := x4_1) () hQ hx hb hr hlocks hS dX6_heatLeft_32 hv hP hD
      · have hv := hv.2 hc_7
        refine lv_iload hx hb dX6_heatLeft_12 (lv_at hl 1 rfl) ?_
        refine lv_aload_n hx hb dX6_heatLeft_14 rfl (lv_at hl 2 rfl) ?_
        refine lv_iload_n hx hb dX6_heatLeft_15 rfl (lv_at hl 3 rfl) ?_
        refine lv_iload hx hb dX6_heatLeft_16 (lv_at hl 1 rfl) ?_
        obtain ⟨hp, hv⟩ := hv
        refine x_calliR (x_runV (As := [.int b, .int x4_1]) (rest := [.int x4_1]) (n := 2) (C := RX6) (ci := 6) ⟨hx, hb, hml, hown, hts⟩ (k_X6_lossOfEmpty l G t t1 t2 t3 t4 t5 t6 _ ns np fu fd fi sz_ pt fh kd nd fw b x4_1 hp) gX6_heatLeft_X6_lossOfEmpty rfl (by decide +kernel) ⟨Nat.le_trans (Nat.le_of_ble_eq_true rfl) hRf, Nat.le_trans (Nat.le_of_ble_eq_true rfl) hRl⟩ hKK hSS hS hA hP hD [0, 1, 2, 3, 4, 5, 6] (by decide) rfl rfl rfl 0 rfl rfl hl.1 rfl (Nat.le_of_ble_eq_true rfl) dX6_heatLeft_18) hP hD hS hA [0, 1, 2, 3, 4, 5, 6] rfl (fun r_8 _ H locs hw hP hS => ?_)
        replace hw := hw.symm; subst hw
        refine lv_isub hx hb dX6_heatLeft_21 ?_
        refine lv_istore (lv' := [(4, .int (x4_1 - (lossI (pt b.toNatClampNeg) x4_1))), (5, .int x5_2), (0, .ref t), (1, .int b), (2, .int he), (3, .int mi)]) hx hb dX6_heatLeft_22 hl (by decide) rfl (fun ls hl => ?_)
        refine lv_iinc (v := (x5_2 + 1)) (lv' := [(5, .int (x5_2 + 1)), (4, .int (x4_1 - (lossI (pt b.toNatClampNeg) x4_1))), (0, .ref t), (1, .int b), (2, .int he), (3, .int mi)]) hx hb dX6_heatLeft_24 hl (k := 1) rfl rfl (by decide) rfl (fun ls hl => ?_)
        refine lv_goto (tgt := 6) hx hb dX6_heatLeft_27 (by decide) ?_
        exact ih_5 _ _ _ _ _ (Nat.lt_of_lt_of_le hv.2 (Nat.le_of_lt_succ hI_6)) hv.1 hP hD hS hl
  exact Lm_11 _ _ _ _ _ _ (Nat.lt_succ_self _) hi0 hP hD hS hl
theorem v_X6_heatLeft (l : Launch) (G : Gt) (t t1 t2 t3 t4 t5 t6 : Nat) (sz : Nat) (ns : Int32) (np : Int32) (fu : Int32) (fd : Int32) (fi : Int32) (sz_ : Nat → Int32) (pt : Nat → Int32) (fh : Nat → Int32) (kd : Nat → Int32) (nd : Nat → Int32) (fw : Nat → Int32) (b : Int32) (he : Int32) (mi : Int32) (T : Nat → Nat → Int) (Ns : Nat) (Np : Nat) (ib : Nat) (kq : Nat) (Hh : Int) (hp : TOK T Ns Np ∧ CT T Ns Np ns np fu fd fi sz_ pt kd nd ∧ b = nI ib ∧ ib < Ns ∧ he.toInt = Hh ∧ 0 ≤ Hh ∧ Hh ≤ 9999 ∧ mi = nI kq ∧ kq < 1000) : ∃ (I6_3 : Int32 → Int32 → Prop) (μ6_4 : Int32 → Int32 → Nat), I6_3 he 0 ∧ (∀ (x4_1 : Int32) (x5_2 : Int32), I6_3 x4_1 x5_2 → (mi ≤ x5_2 → x4_1.toInt = zLos T ib Hh kq) ∧ (¬ (mi ≤ x5_2) → (vp_in b 9) ∧ (I6_3 (x4_1 - (lossI (pt b.toNatClampNeg) x4_1)) (x5_2 + 1) ∧ μ6_4 (x4_1 - (lossI (pt b.toNatClampNeg) x4_1)) (x5_2 + 1) < μ6_4 x4_1 x5_2))) := by
  obtain ⟨hT, hC, rfl, hb, hh, h0, h1, rfl, hk⟩ := hp
  have t1 := hT.1
  have cb : (nI ib).toNatClampNeg = ib := nI_clamp (by omega)
  have a := vp_in_nI (n := ib) (N := 9) (by omega) (by omega)
  refine ⟨fun x y => ∃ i, i ≤ kq ∧ y = nI i ∧ x.toInt = zLos T ib Hh i, fun _ y => kq - y.toNatClampNeg, ⟨0, by omega, rfl, hh⟩, ?_⟩
  rintro x y ⟨i, hi, rfl, hx⟩
  have ei : (nI i).toNatClampNeg = i := nI_clamp (by omega)
  have ei1 : nI i + 1 = nI (i + 1) := nI_1 i
  have ej : (nI (i + 1)).toNatClampNeg = i + 1 := nI_clamp (by omega)
  simp only [ei, ei1, ej, cb]
  refine ⟨fun h => ?_, fun h => ⟨a, ⟨i + 1, ?_, rfl, ?_⟩, ?_⟩⟩
  · have e : kq = i := by have := (nI_leI (a := kq) (b := i) (by omega) (by omega)).mp h; omega
    subst e; exact hx
  · have := mt (nI_leI (a := kq) (b := i) (by omega) (by omega)).mpr h; omega
  · have bd := zLos_bd hT hb h0 h1 i
    have lb := lossZ_bd (pt := T 1 ib) (hT.2.2.1 ib hb).2.2.1 bd.1
    rw [zLos]
    exact i_sub hx (lossI_Z (hC.2.2.1 ib hb).2 hx (hT.2.2.1 ib hb).2.2.1 bd.1) (by omega) (by omega)
  · have := mt (nI_leI (a := kq) (b := i) (by omega) (by omega)).mpr h; omega
theorem k_X6_heatLeft (l : Launch) (G : Gt) (t t1 t2 t3 t4 t5 t6 : Nat) (sz : Nat) (ns : Int32) (np : Int32) (fu : Int32) (fd : Int32) (fi : Int32) (sz_ : Nat → Int32) (pt : Nat → Int32) (fh : Nat → Int32) (kd : Nat → Int32) (nd : Nat → Int32) (fw : Nat → Int32) (b : Int32) (he : Int32) (mi : Int32) (T : Nat → Nat → Int) (Ns : Nat) (Np : Nat) (ib : Nat) (kq : Nat) (Hh : Int) (hp : TOK T Ns Np ∧ CT T Ns Np ns np fu fd fi sz_ pt kd nd ∧ b = nI ib ∧ ib < Ns ∧ he.toInt = Hh ∧ 0 ≤ Hh ∧ Hh ≤ 9999 ∧ mi = nI kq ∧ kq < 1000) : MetI l yX6_heatLeft wsX6_heatLeft 2 35 G [.ref t, .int b, .int he, .int mi] [(t, .inr (6, [.int ns, .int np, .int fu, .int fd, .int fi, .ref t1, .ref t2, .ref t3, .ref t4, .ref t5, .ref t6])), aI G t1 9 sz_, aI G t2 9 pt, aI G t3 9 fh, aI G t4 8 kd, aI G t5 8 nd, aI G t6 8 fw] sz (fun (r : Int32) (_ : Unit) => r.toInt = zLos T ib Hh kq) (fun (_ : Unit) => [(t, .inr (6, [.int ns, .int np, .int fu, .int fd, .int fi, .ref t1, .ref t2, .ref t3, .ref t4, .ref t5, .ref t6])), aI G t1 9 sz_, aI G t2 9 pt, aI G t3 9 fh, aI G t4 8 kd, aI G t5 8 nd, aI G t6 8 fw]) :=
  c_X6_heatLeft l G t t1 t2 t3 t4 t5 t6 sz ns np fu fd fi sz_ pt fh kd nd fw b he mi T Ns Np ib kq Hh (v_X6_heatLeft l G t t1 t2 t3 t4 t5 t6 sz ns np fu fd fi sz_ pt fh kd nd fw b he mi T Ns Np ib kq Hh hp)

set_option maxHeartbeats 4000000 in
set_option maxRecDepth 100000 in
theorem c_X6_clear (l : Launch) (G : Gt) (t t1 t2 t3 t4 t5 t6 : Nat) (sz : Nat) (ns : Int32) (np : Int32) (fu : Int32) (fd : Int32) (fi : Int32) (sz_ : Nat → Int32) (pt : Nat → Int32) (fh : Nat → Int32) (kd : Nat → Int32) (nd : Nat → Int32) (fw : Nat → Int32) (hv : (0 : Int32) = 0 ∧ (0 : Int32) = 0 ∧ (3 : Int32) = 3 ∧ (1 : Int32) = 1 ∧ (0 : Int32) = 0) : MetV l yX6_clear wsX6_clear 0 0 G [.ref t] [(t, .inr (6, [.int ns, .int np, .int fu, .int fd, .int fi, .ref t1, .ref t2, .ref t3, .ref t4, .ref t5, .ref t6])), aI G t1 9 sz_, aI G t2 9 pt, aI G t3 9 fh, aI G t4 8 kd, aI G t5 8 nd, aI G t6 8 fw] sz (fun (u : (Int32) × (Int32) × (Int32) × (Int32) × (Int32)) => (u.1 : Int32) = 0 ∧ (u.2.1 : Int32) = 0 ∧ (u.2.2.1 : Int32) = 3 ∧ (u.2.2.2.1 : Int32) = 1 ∧ (u.2.2.2.2 : Int32) = 0) (fun (u : (Int32) × (Int32) × (Int32) × (Int32) × (Int32)) => [(t, .inr (6, [.int u.1, .int u.2.1, .int u.2.2.1, .int u.2.2.2.1, .int u.2.2.2.2, .ref t1, .ref t2, .ref t3, .ref t4, .ref t5, .ref t6])), aI G t1 9 sz_, aI G t2 9 pt, aI G t3 9 fh, aI G t4 8 kd, aI G t5 8 nd, aI G t6 8 fw]) := by
  refine x_startV (cc := cX6_clear) (maxL := 1) (ret := none) (by decide) rfl (Nat.le_of_ble_eq_true rfl) ?_
  intro p e s m args below meth c A R Q ls hRf hRl hQ C hP hD hS hA hSS hl
  obtain ⟨hx, hb, hr, hml, hown, hts, hlocks, hKK⟩ := C
  have hown : s.vm.findClass RX6 = some m.cls := hown
  have hl : lv_has ls 1 [(0, .ref t)] := hl
  have hinX6 : ∀ w ∈ u_ws RX6 TX6 11, w ∈ wsX6_clear := by decide +kernel
  have kl15 := hts (.fieldLink RX6 15 "WarmStones$Town" "frostSitting" "I") (by decide +kernel)
  have kl37 := hts (.fieldLink RX6 37 "WarmStones$Town" "stones" "I") (by decide +kernel)
  have kl40 := hts (.fieldLink RX6 40 "WarmStones$Town" "persons" "I") (by decide +kernel)
  have kl43 := hts (.fieldLink RX6 43 "WarmStones$Town" "fine" "I") (by decide +kernel)
  have kl9 := hts (.fieldLink RX6 9 "WarmStones$Town" "frostStanding" "I") (by decide +kernel)
  refine lv_aload_n hx hb dX6_clear_0 rfl (lv_at hl 0 rfl) ?_
  refine lv_iconst (v := 0) hx hb dX6_clear_1 (by decide) ?_
  refine va_put (D := G.1) (ci := 6) (v := .int 0) (ty := .int) (C := RX6) (T := TX6) (N := 11) hx hb hts hinX6 tyX6 tyX6_ok nmX6 hown hKK.1 hP hD hS 0 rfl rfl 0 (by decide) kl37 (fun _ h9 => h9) rfl (by decide +kernel) rfl rfl (Nat.le_of_ble_eq_true rfl) dX6_clear_2 (fun H locs hP hD hS => ?_)
  have hP : va_P G.1 vwCl [(t, .inr (6, [.int 0, .int np, .int fu, .int fd, .int fi, .ref t1, .ref t2, .ref t3, .ref t4, .ref t5, .ref t6])), aI G t1 9 sz_, aI G t2 9 pt, aI G t3 9 fh, aI G t4 8 kd, aI G t5 8 nd, aI G t6 8 fw] H := hP
  have hD : va_D A [(t, .inr (6, [.int 0, .int np, .int fu, .int fd, .int fi, .ref t1, .ref t2, .ref t3, .ref t4, .ref t5, .ref t6])), aI G t1 9 sz_, aI G t2 9 pt, aI G t3 9 fh, aI G t4 8 kd, aI G t5 8 nd, aI G t6 8 fw] := hD
  refine lv_aload_n hx hb dX6_clear_5 rfl (lv_at hl 0 rfl) ?_
  refine lv_iconst (v := 0) hx hb dX6_clear_6 (by decide) ?_
  refine va_put (D := G.1) (ci := 6) (v := .int 0) (ty := .int) (C := RX6) (T := TX6) (N := 11) hx hb hts hinX6 tyX6 tyX6_ok nmX6 hown hKK.1 hP hD hS 0 rfl rfl 1 (by decide) kl40 (fun _ h9 => h9) rfl (by decide +kernel) rfl rfl (Nat.le_of_ble_eq_true rfl) dX6_clear_7 (fun H locs hP hD hS => ?_)
  have hP : va_P G.1 vwCl [(t, .inr (6, [.int 0, .int 0, .int fu, .int fd, .int fi, .ref t1, .ref t2, .ref t3, .ref t4, .ref t5, .ref t6])), aI G t1 9 sz_, aI G t2 9 pt, aI G t3 9 fh, aI G t4 8 kd, aI G t5 8 nd, aI G t6 8 fw] H := hP
  have hD : va_D A [(t, .inr (6, [.int 0, .int 0, .int fu, .int fd, .int fi, .ref t1, .ref t2, .ref t3, .ref t4, .ref t5, .ref t6])), aI G t1 9 sz_, aI G t2 9 pt, aI G t3 9 fh, aI G t4 8 kd, aI G t5 8 nd, aI G t6 8 fw] := hD
  refine lv_aload_n hx hb dX6_clear_10 rfl (lv_at hl 0 rfl) ?_
  refine lv_iconst (v := 3) hx hb dX6_clear_11 (by decide) ?_
  refine va_put (D := G.1) (ci := 6) (v := .int 3) (ty := .int) (C := RX6) (T := TX6) (N := 11) hx hb hts hinX6 tyX6 tyX6_ok nmX6 hown hKK.1 hP hD hS 0 rfl rfl 2 (by decide) kl9 (fun _ h9 => h9) rfl (by decide +kernel) rfl rfl (Nat.le_of_ble_eq_true rfl) dX6_clear_12 (fun H locs hP hD hS => ?_)
  have hP : va_P G.1 vwCl [(t, .inr (6, [.int 0, .int 0, .int 3, .int fd, .int fi, .ref t1, .ref t2, .ref t3, .ref t4, .ref t5, .ref t6])), aI G t1 9 sz_, aI G t2 9 pt, aI G t3 9 fh, aI G t4 8 kd, aI G t5 8 nd, aI G t6 8 fw] H := hP
  have hD : va_D A [(t, .inr (6, [.int 0, .int 0, .int 3, .int fd, .int fi, .ref t1, .ref t2, .ref t3, .ref t4, .ref t5, .ref t6])), aI G t1 9 sz_, aI G t2 9 pt, aI G t3 9 fh, aI G t4 8 kd, aI G t5 8 nd, aI G t6 8 fw] := hD
  refine lv_aload_n hx hb dX6_clear_15 rfl (lv_at hl 0 rfl) ?_
  refine lv_iconst (v := 1) hx hb dX6_clear_16 (by decide) ?_
  refine va_put (D := G.1) (ci := 6) (v := .int 1) (ty := .int) (C := RX6) (T := TX6) (N := 11) hx hb hts hinX6 tyX6 tyX6_ok nmX6 hown hKK.1 hP hD hS 0 rfl rfl 3 (by decide) kl15 (fun _ h9 => h9) rfl (by decide +kernel) rfl rfl (Nat.le_of_ble_eq_true rfl) dX6_clear_17 (fun H locs hP hD hS => ?_)
  have hP : va_P G.1 vwCl [(t, .inr (6, [.int 0, .int 0, .int 3, .int 1, .int fi, .ref t1, .ref t2, .ref t3, .ref t4, .ref t5, .ref t6])), aI G t1 9 sz_, aI G t2 9 pt, aI G t3 9 fh, aI G t4 8 kd, aI G t5 8 nd, aI G t6 8 fw] H := hP
  have hD : va_D A [(t, .inr (6, [.int 0, .int 0, .int 3, .int 1, .int fi, .ref t1, .ref t2, .ref t3, .ref t4, .ref t5, .ref t6])), aI G t1 9 sz_, aI G t2 9 pt, aI G t3 9 fh, aI G t4 8 kd, aI G t5 8 nd, aI G t6 8 fw] := hD
  refine lv_aload_n hx hb dX6_clear_20 rfl (lv_at hl 0 rfl) ?_
  refine lv_iconst (v := 0) hx hb dX6_clear_21 (by decide) ?_
  refine va_put (D := G.1) (ci := 6) (v := .int 0) (ty := .int) (C := RX6) (T := TX6) (N := 11) hx hb hts hinX6 tyX6 tyX6_ok nmX6 hown hKK.1 hP hD hS 0 rfl rfl 4 (by decide) kl43 (fun _ h9 => h9) rfl (by decide +kernel) rfl rfl (Nat.le_of_ble_eq_true rfl) dX6_clear_22 (fun H locs hP hD hS => ?_)
  have hP : va_P G.1 vwCl [(t, .inr (6, [.int 0, .int 0, .int 3, .int 1, .int 0, .ref t1, .ref t2, .ref t3, .ref t4, .ref t5, .ref t6])), aI G t1 9 sz_, aI G t2 9 pt, aI G t3 9 fh, aI G t4 8 kd, aI G t5 8 nd, aI G t6 8 fw] H := hP
  have hD : va_D A [(t, .inr (6, [.int 0, .int 0, .int 3, .int 1, .int 0, .ref t1, .ref t2, .ref t3, .ref t4, .ref t5, .ref t6])), aI G t1 9 sz_, aI G t2 9 pt, aI G t3 9 fh, aI G t4 8 kd, aI G t5 8 nd, aI G t6 8 fw] := hD
  exact x_vret (0, 0, 3, 1, 0) hQ hx hb hr hlocks hS dX6_clear_25 hv hP hD
theorem v_X6_clear (l : Launch) (G : Gt) (t t1 t2 t3 t4 t5 t6 : Nat) (sz : Nat) (ns : Int32) (np : Int32) (fu : Int32) (fd : Int32) (fi : Int32) (sz_ : Nat → Int32) (pt : Nat → Int32) (fh : Nat → Int32) (kd : Nat → Int32) (nd : Nat → Int32) (fw : Nat → Int32) : (0 : Int32) = 0 ∧ (0 : Int32) = 0 ∧ (3 : Int32) = 3 ∧ (1 : Int32) = 1 ∧ (0 : Int32) = 0 := by
  exact ⟨rfl, rfl, rfl, rfl, rfl⟩
theorem k_X6_clear (l : Launch) (G : Gt) (t t1 t2 t3 t4 t5 t6 : Nat) (sz : Nat) (ns : Int32) (np : Int32) (fu : Int32) (fd : Int32) (fi : Int32) (sz_ : Nat → Int32) (pt : Nat → Int32) (fh : Nat → Int32) (kd : Nat → Int32) (nd : Nat → Int32) (fw : Nat → Int32) : MetV l yX6_clear wsX6_clear 0 0 G [.ref t] [(t, .inr (6, [.int ns, .int np, .int fu, .int fd, .int fi, .ref t1, .ref t2, .ref t3, .ref t4, .ref t5, .ref t6])), aI G t1 9 sz_, aI G t2 9 pt, aI G t3 9 fh, aI G t4 8 kd, aI G t5 8 nd, aI G t6 8 fw] sz (fun (u : (Int32) × (Int32) × (Int32) × (Int32) × (Int32)) => (u.1 : Int32) = 0 ∧ (u.2.1 : Int32) = 0 ∧ (u.2.2.1 : Int32) = 3 ∧ (u.2.2.2.1 : Int32) = 1 ∧ (u.2.2.2.2 : Int32) = 0) (fun (u : (Int32) × (Int32) × (Int32) × (Int32) × (Int32)) => [(t, .inr (6, [.int u.1, .int u.2.1, .int u.2.2.1, .int u.2.2.2.1, .int u.2.2.2.2, .ref t1, .ref t2, .ref t3, .ref t4, .ref t5, .ref t6])), aI G t1 9 sz_, aI G t2 9 pt, aI G t3 9 fh, aI G t4 8 kd, aI G t5 8 nd, aI G t6 8 fw]) :=
  c_X6_clear l G t t1 t2 t3 t4 t5 t6 sz ns np fu fd fi sz_ pt fh kd nd fw (v_X6_clear l G t t1 t2 t3 t4 t5 t6 sz ns np fu fd fi sz_ pt fh kd nd fw)

set_option maxHeartbeats 4000000 in
set_option maxRecDepth 100000 in
theorem c_X6_addStone (l : Launch) (G : Gt) (t t1 t2 t3 t4 t5 t6 : Nat) (sz : Nat) (ns : Int32) (np : Int32) (fu : Int32) (fd : Int32) (fi : Int32) (sz_ : Nat → Int32) (pt : Nat → Int32) (fh : Nat → Int32) (kd : Nat → Int32) (nd : Nat → Int32) (fw : Nat → Int32) (x : Int32) (y : Int32) (z : Int32) (hv : (9 ≤ ns → (ns : Int32) = ns + 1 ∧ ((sz_ : Nat → Int32) = upd sz_ ns.toNatClampNeg x) ∧ ((pt : Nat → Int32) = upd pt ns.toNatClampNeg y) ∧ ((fh : Nat → Int32) = upd fh ns.toNatClampNeg z)) ∧ (¬ (9 ≤ ns) → (vp_in ns 9) ∧ ((vp_in ns 9) ∧ ((vp_in ns 9) ∧ (((ns + 1) : Int32) = ns + 1 ∧ (((upd sz_ ns.toNatClampNeg x) : Nat → Int32) = upd sz_ ns.toNatClampNeg x) ∧ (((upd pt ns.toNatClampNeg y) : Nat → Int32) = upd pt ns.toNatClampNeg y) ∧ (((upd fh ns.toNatClampNeg z) : Nat → Int32) = upd fh ns.toNatClampNeg z)))))) : MetV l yX6_addStone wsX6_addStone 0 0 G [.ref t, .int x, .int y, .int z] [(t, .inr (6, [.int ns, .int np, .int fu, .int fd, .int fi, .ref t1, .ref t2, .ref t3, .ref t4, .ref t5, .ref t6])), aI G t1 9 sz_, aI G t2 9 pt, aI G t3 9 fh, aI G t4 8 kd, aI G t5 8 nd, aI G t6 8 fw] sz (fun (u : (Int32) × (Nat → Int32) × (Nat → Int32) × (Nat → Int32)) => (u.1 : Int32) = ns + 1 ∧ ((u.2.1 : Nat → Int32) = upd sz_ ns.toNatClampNeg x) ∧ ((u.2.2.1 : Nat → Int32) = upd pt ns.toNatClampNeg y) ∧ ((u.2.2.2 : Nat → Int32) = upd fh ns.toNatClampNeg z)) (fun (u : (Int32) × (Nat → Int32) × (Nat → Int32) × (Nat → Int32)) => [(t, .inr (6, [.int u.1, .int np, .int fu, .int fd, .int fi, .ref t1, .ref t2, .ref t3, .ref t4, .ref t5, .ref t6])), aI G t1 9 u.2.1, aI G t2 9 u.2.2.1, aI G t3 9 u.2.2.2, aI G t4 8 kd, aI G t5 8 nd, aI G t6 8 fw]) := by
  refine x_startV (cc := cX6_addStone) (maxL := 4) (ret := none) (by decide) rfl (Nat.le_of_ble_eq_true rfl) ?_
  intro p e s m args below meth c A R Q ls hRf hRl hQ C hP hD hS hA hSS hl
  obtain ⟨hx, hb, hr, hml, hown, hts, hlocks, hKK⟩ := C
  have hown : s.vm.findClass RX6 = some m.cls := hown
  have hl : lv_has ls 4 [(0, .ref t), (1, .int x), (2, .int y), (3, .int z)] := hl
  have hinX6 : ∀ w ∈ u_ws RX6 TX6 11, w ∈ wsX6_addStone := by decide +kernel
  have kl18 := hts (.fieldLink RX6 18 "WarmStones$Town" "size" "[I") (by decide +kernel)
  have kl22 := hts (.fieldLink RX6 22 "WarmStones$Town" "part" "[I") (by decide +kernel)
  have kl25 := hts (.fieldLink RX6 25 "WarmStones$Town" "firstHeat" "[I") (by decide +kernel)
  have kl37 := hts (.fieldLink RX6 37 "WarmStones$Town" "stones" "I") (by decide +kernel)
  refine lv_aload_n hx hb dX6_addStone_0 rfl (lv_at hl 0 rfl) ?_
  refine va_get (D := G.1) (ci := 6) (v := .int ns) (C := RX6) (T := TX6) (N := 11) hx hb hts hinX6 hown hKK.1 hP 0 rfl rfl 0 (by decide) kl37 (fun _ h9 => h9) rfl dX6_addStone_1 ?_
  refine lv_bipush (v := 9) hx hb dX6_addStone_4 (by decide) ?_
  refine lv_icmp_ge (tgt := 49) hx hb dX6_addStone_6 (by decide) (fun hc_1 => ?_) (fun hc_1 => ?_)
  · have hv := hv.1 hc_1
    exact x_vret (ns, sz_, pt, fh) hQ hx hb hr hlocks hS dX6_addStone_49 hv hP hD
  · have hv := hv.2 hc_1
    refine lv_aload_n hx hb dX6_addStone_9 rfl (lv_at hl 0 rfl) ?_
    refine va_get (D := G.1) (ci := 6) (v := .ref t1) (C := RX6) (T := TX6) (N := 11) hx hb hts hinX6 hown hKK.1 hP 0 rfl rfl 5 (by decide) kl18 (fun _ h9 => h9) rfl dX6_addStone_10 ?_
    refine lv_aload_n hx hb dX6_addStone_13 rfl (lv_at hl 0 rfl) ?_
    refine va_get (D := G.1) (ci := 6) (v := .int ns) (C := RX6) (T := TX6) (N := 11) hx hb hts hinX6 hown hKK.1 hP 0 rfl rfl 0 (by decide) kl37 (fun _ h9 => h9) rfl dX6_addStone_14 ?_
    refine lv_iload_n hx hb dX6_addStone_17 rfl (lv_at hl 1 rfl) ?_
    obtain ⟨hin, hv⟩ := hv
    refine va_iast hx hb hKK.1 hP hD hS 1 0 rfl rfl hin dX6_addStone_18 (fun H locs hP hD hS => ?_)
    have hP : va_P G.1 vwCl [(t, .inr (6, [.int ns, .int np, .int fu, .int fd, .int fi, .ref t1, .ref t2, .ref t3, .ref t4, .ref t5, .ref t6])), aI G t1 9 (upd sz_ ns.toNatClampNeg x), aI G t2 9 pt, aI G t3 9 fh, aI G t4 8 kd, aI G t5 8 nd, aI G t6 8 fw] H := hP
    have hD : va_D A [(t, .inr (6, [.int ns, .int np, .int fu, .int fd, .int fi, .ref t1, .ref t2, .ref t3, .ref t4, .ref t5, .ref t6])), aI G t1 9 (upd sz_ ns.toNatClampNeg x), aI G t2 9 pt, aI G t3 9 fh, aI G t4 8 kd, aI G t5 8 nd, aI G t6 8 fw] := hD
    refine lv_aload_n hx hb dX6_addStone_19 rfl (lv_at hl 0 rfl) ?_
    refine va_get (D := G.1) (ci := 6) (v := .ref t2) (C := RX6) (T := TX6) (N := 11) hx hb hts hinX6 hown hKK.1 hP 0 rfl rfl 6 (by decide) kl22 (fun _ h9 => h9) rfl dX6_addStone_20 ?_
    refine lv_aload_n hx hb dX6_addStone_23 rfl (lv_at hl 0 rfl) ?_
    refine va_get (D := G.1) (ci := 6) (v := .int ns) (C := RX6) (T := TX6) (N := 11) hx hb hts hinX6 hown hKK.1 hP 0 rfl rfl 0 (by decide) kl37 (fun _ h9 => h9) rfl dX6_addStone_24 ?_
    refine lv_iload_n hx hb dX6_addStone_27 rfl (lv_at hl 2 rfl) ?_
    obtain ⟨hin, hv⟩ := hv
    refine va_iast hx hb hKK.1 hP hD hS 2 0 rfl rfl hin dX6_addStone_28 (fun H locs hP hD hS => ?_)
    have hP : va_P G.1 vwCl [(t, .inr (6, [.int ns, .int np, .int fu, .int fd, .int fi, .ref t1, .ref t2, .ref t3, .ref t4, .ref t5, .ref t6])), aI G t1 9 (upd sz_ ns.toNatClampNeg x), aI G t2 9 (upd pt ns.toNatClampNeg y), aI G t3 9 fh, aI G t4 8 kd, aI G t5 8 nd, aI G t6 8 fw] H := hP
    have hD : va_D A [(t, .inr (6, [.int ns, .int np, .int fu, .int fd, .int fi, .ref t1, .ref t2, .ref t3, .ref t4, .ref t5, .ref t6])), aI G t1 9 (upd sz_ ns.toNatClampNeg x), aI G t2 9 (upd pt ns.toNatClampNeg y), aI G t3 9 fh, aI G t4 8 kd, aI G t5 8 nd, aI G t6 8 fw] := hD
    refine lv_aload_n hx hb dX6_addStone_29 rfl (lv_at hl 0 rfl) ?_
    refine va_get (D := G.1) (ci := 6) (v := .ref t3) (C := RX6) (T := TX6) (N := 11) hx hb hts hinX6 hown hKK.1 hP 0 rfl rfl 7 (by decide) kl25 (fun _ h9 => h9) rfl dX6_addStone_30 ?_
    refine lv_aload_n hx hb dX6_addStone_33 rfl (lv_at hl 0 rfl) ?_
    refine va_get (D := G.1) (ci := 6) (v := .int ns) (C := RX6) (T := TX6) (N := 11) hx hb hts hinX6 hown hKK.1 hP 0 rfl rfl 0 (by decide) kl37 (fun _ h9 => h9) rfl dX6_addStone_34 ?_
    refine lv_iload_n hx hb dX6_addStone_37 rfl (lv_at hl 3 rfl) ?_
    obtain ⟨hin, hv⟩ := hv
    refine va_iast hx hb hKK.1 hP hD hS 3 0 rfl rfl hin dX6_addStone_38 (fun H locs hP hD hS => ?_)
    have hP : va_P G.1 vwCl [(t, .inr (6, [.int ns, .int np, .int fu, .int fd, .int fi, .ref t1, .ref t2, .ref t3, .ref t4, .ref t5, .ref t6])), aI G t1 9 (upd sz_ ns.toNatClampNeg x), aI G t2 9 (upd pt ns.toNatClampNeg y), aI G t3 9 (upd fh ns.toNatClampNeg z), aI G t4 8 kd, aI G t5 8 nd, aI G t6 8 fw] H := hP
    have hD : va_D A [(t, .inr (6, [.int ns, .int np, .int fu, .int fd, .int fi, .ref t1, .ref t2, .ref t3, .ref t4, .ref t5, .ref t6])), aI G t1 9 (upd sz_ ns.toNatClampNeg x), aI G t2 9 (upd pt ns.toNatClampNeg y), aI G t3 9 (upd fh ns.toNatClampNeg z), aI G t4 8 kd, aI G t5 8 nd, aI G t6 8 fw] := hD
    refine lv_aload_n hx hb dX6_addStone_39 rfl (lv_at hl 0 rfl) ?_
    refine lv_dup hx hb dX6_addStone_40 rfl ?_
    refine va_get (D := G.1) (ci := 6) (v := .int ns) (C := RX6) (T := TX6) (N := 11) hx hb hts hinX6 hown hKK.1 hP 0 rfl rfl 0 (by decide) kl37 (fun _ h9 => h9) rfl dX6_addStone_41 ?_
    refine lv_iconst (v := 1) hx hb dX6_addStone_44 (by decide) ?_
    refine lv_iadd hx hb dX6_addStone_45 ?_
    refine va_put (D := G.1) (ci := 6) (v := .int (ns + 1)) (ty := .int) (C := RX6) (T := TX6) (N := 11) hx hb hts hinX6 tyX6 tyX6_ok nmX6 hown hKK.1 hP hD hS 0 rfl rfl 0 (by decide) kl37 (fun _ h9 => h9) rfl (by decide +kernel) rfl rfl (Nat.le_of_ble_eq_true rfl) dX6_addStone_46 (fun H locs hP hD hS => ?_)
    have hP : va_P G.1 vwCl [(t, .inr (6, [.int (ns + 1), .int np, .int fu, .int fd, .int fi, .ref t1, .ref t2, .ref t3, .ref t4, .ref t5, .ref t6])), aI G t1 9 (upd sz_ ns.toNatClampNeg x), aI G t2 9 (upd pt ns.toNatClampNeg y), aI G t3 9 (upd fh ns.toNatClampNeg z), aI G t4 8 kd, aI G t5 8 nd, aI G t6 8 fw] H := hP
    have hD : va_D A [(t, .inr (6, [.int (ns + 1), .int np, .int fu, .int fd, .int fi, .ref t1, .ref t2, .ref t3, .ref t4, .ref t5, .ref t6])), aI G t1 9 (upd sz_ ns.toNatClampNeg x), aI G t2 9 (upd pt ns.toNatClampNeg y), aI G t3 9 (upd fh ns.toNatClampNeg z), aI G t4 8 kd, aI G t5 8 nd, aI G t6 8 fw] := hD
    exact x_vret ((ns + 1), (upd sz_ ns.toNatClampNeg x), (upd pt ns.toNatClampNeg y), (upd fh ns.toNatClampNeg z)) hQ hx hb hr hlocks hS dX6_addStone_49 hv hP hD
theorem v_X6_addStone (l : Launch) (G : Gt) (t t1 t2 t3 t4 t5 t6 : Nat) (sz : Nat) (ns : Int32) (np : Int32) (fu : Int32) (fd : Int32) (fi : Int32) (sz_ : Nat → Int32) (pt : Nat → Int32) (fh : Nat → Int32) (kd : Nat → Int32) (nd : Nat → Int32) (fw : Nat → Int32) (x : Int32) (y : Int32) (z : Int32) (hp : vp_in ns 9 ∧ ns < 9) : (9 ≤ ns → (ns : Int32) = ns + 1 ∧ ((sz_ : Nat → Int32) = upd sz_ ns.toNatClampNeg x) ∧ ((pt : Nat → Int32) = upd pt ns.toNatClampNeg y) ∧ ((fh : Nat → Int32) = upd fh ns.toNatClampNeg z)) ∧ (¬ (9 ≤ ns) → (vp_in ns 9) ∧ ((vp_in ns 9) ∧ ((vp_in ns 9) ∧ (((ns + 1) : Int32) = ns + 1 ∧ (((upd sz_ ns.toNatClampNeg x) : Nat → Int32) = upd sz_ ns.toNatClampNeg x) ∧ (((upd pt ns.toNatClampNeg y) : Nat → Int32) = upd pt ns.toNatClampNeg y) ∧ (((upd fh ns.toNatClampNeg z) : Nat → Int32) = upd fh ns.toNatClampNeg z))))) := by
  obtain ⟨h1, h2⟩ := hp
  simp_all
theorem k_X6_addStone (l : Launch) (G : Gt) (t t1 t2 t3 t4 t5 t6 : Nat) (sz : Nat) (ns : Int32) (np : Int32) (fu : Int32) (fd : Int32) (fi : Int32) (sz_ : Nat → Int32) (pt : Nat → Int32) (fh : Nat → Int32) (kd : Nat → Int32) (nd : Nat → Int32) (fw : Nat → Int32) (x : Int32) (y : Int32) (z : Int32) (hp : vp_in ns 9 ∧ ns < 9) : MetV l yX6_addStone wsX6_addStone 0 0 G [.ref t, .int x, .int y, .int z] [(t, .inr (6, [.int ns, .int np, .int fu, .int fd, .int fi, .ref t1, .ref t2, .ref t3, .ref t4, .ref t5, .ref t6])), aI G t1 9 sz_, aI G t2 9 pt, aI G t3 9 fh, aI G t4 8 kd, aI G t5 8 nd, aI G t6 8 fw] sz (fun (u : (Int32) × (Nat → Int32) × (Nat → Int32) × (Nat → Int32)) => (u.1 : Int32) = ns + 1 ∧ ((u.2.1 : Nat → Int32) = upd sz_ ns.toNatClampNeg x) ∧ ((u.2.2.1 : Nat → Int32) = upd pt ns.toNatClampNeg y) ∧ ((u.2.2.2 : Nat → Int32) = upd fh ns.toNatClampNeg z)) (fun (u : (Int32) × (Nat → Int32) × (Nat → Int32) × (Nat → Int32)) => [(t, .inr (6, [.int u.1, .int np, .int fu, .int fd, .int fi, .ref t1, .ref t2, .ref t3, .ref t4, .ref t5, .ref t6])), aI G t1 9 u.2.1, aI G t2 9 u.2.2.1, aI G t3 9 u.2.2.2, aI G t4 8 kd, aI G t5 8 nd, aI G t6 8 fw]) :=
  c_X6_addStone l G t t1 t2 t3 t4 t5 t6 sz ns np fu fd fi sz_ pt fh kd nd fw x y z (v_X6_addStone l G t t1 t2 t3 t4 t5 t6 sz ns np fu fd fi sz_ pt fh kd nd fw x y z hp)

set_option maxHeartbeats 4000000 in
set_option maxRecDepth 100000 in
theorem c_X6_addPerson (l : Launch) (G : Gt) (t t1 t2 t3 t4 t5 t6 : Nat) (sz : Nat) (ns : Int32) (np : Int32) (fu : Int32) (fd : Int32) (fi : Int32) (sz_ : Nat → Int32) (pt : Nat → Int32) (fh : Nat → Int32) (kd : Nat → Int32) (nd : Nat → Int32) (fw : Nat → Int32) (x : Int32) (y : Int32) (z : Int32) (hv : (8 ≤ np → (np : Int32) = np + 1 ∧ ((kd : Nat → Int32) = upd kd np.toNatClampNeg x) ∧ ((nd : Nat → Int32) = upd nd np.toNatClampNeg z) ∧ ((fw : Nat → Int32) = upd fw np.toNatClampNeg y)) ∧ (¬ (8 ≤ np) → (vp_in np 8) ∧ ((vp_in np 8) ∧ ((vp_in np 8) ∧ (((np + 1) : Int32) = np + 1 ∧ (((upd kd np.toNatClampNeg x) : Nat → Int32) = upd kd np.toNatClampNeg x) ∧ (((upd nd np.toNatClampNeg z) : Nat → Int32) = upd nd np.toNatClampNeg z) ∧ (((upd fw np.toNatClampNeg y) : Nat → Int32) = upd fw np.toNatClampNeg y)))))) : MetV l yX6_addPerson wsX6_addPerson 0 0 G [.ref t, .int x, .int y, .int z] [(t, .inr (6, [.int ns, .int np, .int fu, .int fd, .int fi, .ref t1, .ref t2, .ref t3, .ref t4, .ref t5, .ref t6])), aI G t1 9 sz_, aI G t2 9 pt, aI G t3 9 fh, aI G t4 8 kd, aI G t5 8 nd, aI G t6 8 fw] sz (fun (u : (Int32) × (Nat → Int32) × (Nat → Int32) × (Nat → Int32)) => (u.1 : Int32) = np + 1 ∧ ((u.2.1 : Nat → Int32) = upd kd np.toNatClampNeg x) ∧ ((u.2.2.1 : Nat → Int32) = upd nd np.toNatClampNeg z) ∧ ((u.2.2.2 : Nat → Int32) = upd fw np.toNatClampNeg y)) (fun (u : (Int32) × (Nat → Int32) × (Nat → Int32) × (Nat → Int32)) => [(t, .inr (6, [.int ns, .int u.1, .int fu, .int fd, .int fi, .ref t1, .ref t2, .ref t3, .ref t4, .ref t5, .ref t6])), aI G t1 9 sz_, aI G t2 9 pt, aI G t3 9 fh, aI G t4 8 u.2.1, aI G t5 8 u.2.2.1, aI G t6 8 u.2.2.2]) := by
  refine x_startV (cc := cX6_addPerson) (maxL := 4) (ret := none) (by decide) rfl (Nat.le_of_ble_eq_true rfl) ?_
  intro p e s m args below meth c A R Q ls hRf hRl hQ C hP hD hS hA hSS hl
  obtain ⟨hx, hb, hr, hml, hown, hts, hlocks, hKK⟩ := C
  have hown : s.vm.findClass RX6 = some m.cls := hown
  have hl : lv_has ls 4 [(0, .ref t), (1, .int x), (2, .int y), (3, .int z)] := hl
  have hinX6 : ∀ w ∈ u_ws RX6 TX6 11, w ∈ wsX6_addPerson := by decide +kernel
  have kl28 := hts (.fieldLink RX6 28 "WarmStones$Town" "kind" "[I") (by decide +kernel)
  have kl31 := hts (.fieldLink RX6 31 "WarmStones$Town" "need" "[I") (by decide +kernel)
  have kl34 := hts (.fieldLink RX6 34 "WarmStones$Town" "firstWarmth" "[I") (by decide +kernel)
  have kl40 := hts (.fieldLink RX6 40 "WarmStones$Town" "persons" "I") (by decide +kernel)
  refine lv_aload_n hx hb dX6_addPerson_0 rfl (lv_at hl 0 rfl) ?_
  refine va_get (D := G.1) (ci := 6) (v := .int np) (C := RX6) (T := TX6) (N := 11) hx hb hts hinX6 hown hKK.1 hP 0 rfl rfl 1 (by decide) kl40 (fun _ h9 => h9) rfl dX6_addPerson_1 ?_
  refine lv_bipush (v := 8) hx hb dX6_addPerson_4 (by decide) ?_
  refine lv_icmp_ge (tgt := 49) hx hb dX6_addPerson_6 (by decide) (fun hc_1 => ?_) (fun hc_1 => ?_)
  · have hv := hv.1 hc_1
    exact x_vret (np, kd, nd, fw) hQ hx hb hr hlocks hS dX6_addPerson_49 hv hP hD
  · have hv := hv.2 hc_1
    refine lv_aload_n hx hb dX6_addPerson_9 rfl (lv_at hl 0 rfl) ?_
    refine va_get (D := G.1) (ci := 6) (v := .ref t4) (C := RX6) (T := TX6) (N := 11) hx hb hts hinX6 hown hKK.1 hP 0 rfl rfl 8 (by decide) kl28 (fun _ h9 => h9) rfl dX6_addPerson_10 ?_
    refine lv_aload_n hx hb dX6_addPerson_13 rfl (lv_at hl 0 rfl) ?_
    refine va_get (D := G.1) (ci := 6) (v := .int np) (C := RX6) (T := TX6) (N := 11) hx hb hts hinX6 hown hKK.1 hP 0 rfl rfl 1 (by decide) kl40 (fun _ h9 => h9) rfl dX6_addPerson_14 ?_
    refine lv_iload_n hx hb dX6_addPerson_17 rfl (lv_at hl 1 rfl) ?_
    obtain ⟨hin, hv⟩ := hv
    refine va_iast hx hb hKK.1 hP hD hS 4 0 rfl rfl hin dX6_addPerson_18 (fun H locs hP hD hS => ?_)
    have hP : va_P G.1 vwCl [(t, .inr (6, [.int ns, .int np, .int fu, .int fd, .int fi, .ref t1, .ref t2, .ref t3, .ref t4, .ref t5, .ref t6])), aI G t1 9 sz_, aI G t2 9 pt, aI G t3 9 fh, aI G t4 8 (upd kd np.toNatClampNeg x), aI G t5 8 nd, aI G t6 8 fw] H := hP
    have hD : va_D A [(t, .inr (6, [.int ns, .int np, .int fu, .int fd, .int fi, .ref t1, .ref t2, .ref t3, .ref t4, .ref t5, .ref t6])), aI G t1 9 sz_, aI G t2 9 pt, aI G t3 9 fh, aI G t4 8 (upd kd np.toNatClampNeg x), aI G t5 8 nd, aI G t6 8 fw] := hD
    refine lv_aload_n hx hb dX6_addPerson_19 rfl (lv_at hl 0 rfl) ?_
    refine va_get (D := G.1) (ci := 6) (v := .ref t6) (C := RX6) (T := TX6) (N := 11) hx hb hts hinX6 hown hKK.1 hP 0 rfl rfl 10 (by decide) kl34 (fun _ h9 => h9) rfl dX6_addPerson_20 ?_
    refine lv_aload_n hx hb dX6_addPerson_23 rfl (lv_at hl 0 rfl) ?_
    refine va_get (D := G.1) (ci := 6) (v := .int np) (C := RX6) (T := TX6) (N := 11) hx hb hts hinX6 hown hKK.1 hP 0 rfl rfl 1 (by decide) kl40 (fun _ h9 => h9) rfl dX6_addPerson_24 ?_
    refine lv_iload_n hx hb dX6_addPerson_27 rfl (lv_at hl 2 rfl) ?_
    obtain ⟨hin, hv⟩ := hv
    refine va_iast hx hb hKK.1 hP hD hS 6 0 rfl rfl hin dX6_addPerson_28 (fun H locs hP hD hS => ?_)
    have hP : va_P G.1 vwCl [(t, .inr (6, [.int ns, .int np, .int fu, .int fd, .int fi, .ref t1, .ref t2, .ref t3, .ref t4, .ref t5, .ref t6])), aI G t1 9 sz_, aI G t2 9 pt, aI G t3 9 fh, aI G t4 8 (upd kd np.toNatClampNeg x), aI G t5 8 nd, aI G t6 8 (upd fw np.toNatClampNeg y)] H := hP
    have hD : va_D A [(t, .inr (6, [.int ns, .int np, .int fu, .int fd, .int fi, .ref t1, .ref t2, .ref t3, .ref t4, .ref t5, .ref t6])), aI G t1 9 sz_, aI G t2 9 pt, aI G t3 9 fh, aI G t4 8 (upd kd np.toNatClampNeg x), aI G t5 8 nd, aI G t6 8 (upd fw np.toNatClampNeg y)] := hD
    refine lv_aload_n hx hb dX6_addPerson_29 rfl (lv_at hl 0 rfl) ?_
    refine va_get (D := G.1) (ci := 6) (v := .ref t5) (C := RX6) (T := TX6) (N := 11) hx hb hts hinX6 hown hKK.1 hP 0 rfl rfl 9 (by decide) kl31 (fun _ h9 => h9) rfl dX6_addPerson_30 ?_
    refine lv_aload_n hx hb dX6_addPerson_33 rfl (lv_at hl 0 rfl) ?_
    refine va_get (D := G.1) (ci := 6) (v := .int np) (C := RX6) (T := TX6) (N := 11) hx hb hts hinX6 hown hKK.1 hP 0 rfl rfl 1 (by decide) kl40 (fun _ h9 => h9) rfl dX6_addPerson_34 ?_
    refine lv_iload_n hx hb dX6_addPerson_37 rfl (lv_at hl 3 rfl) ?_
    obtain ⟨hin, hv⟩ := hv
    refine va_iast hx hb hKK.1 hP hD hS 5 0 rfl rfl hin dX6_addPerson_38 (fun H locs hP hD hS => ?_)
    have hP : va_P G.1 vwCl [(t, .inr (6, [.int ns, .int np, .int fu, .int fd, .int fi, .ref t1, .ref t2, .ref t3, .ref t4, .ref t5, .ref t6])), aI G t1 9 sz_, aI G t2 9 pt, aI G t3 9 fh, aI G t4 8 (upd kd np.toNatClampNeg x), aI G t5 8 (upd nd np.toNatClampNeg z), aI G t6 8 (upd fw np.toNatClampNeg y)] H := hP
    have hD : va_D A [(t, .inr (6, [.int ns, .int np, .int fu, .int fd, .int fi, .ref t1, .ref t2, .ref t3, .ref t4, .ref t5, .ref t6])), aI G t1 9 sz_, aI G t2 9 pt, aI G t3 9 fh, aI G t4 8 (upd kd np.toNatClampNeg x), aI G t5 8 (upd nd np.toNatClampNeg z), aI G t6 8 (upd fw np.toNatClampNeg y)] := hD
    refine lv_aload_n hx hb dX6_addPerson_39 rfl (lv_at hl 0 rfl) ?_
    refine lv_dup hx hb dX6_addPerson_40 rfl ?_
    refine va_get (D := G.1) (ci := 6) (v := .int np) (C := RX6) (T := TX6) (N := 11) hx hb hts hinX6 hown hKK.1 hP 0 rfl rfl 1 (by decide) kl40 (fun _ h9 => h9) rfl dX6_addPerson_41 ?_
    refine lv_iconst (v := 1) hx hb dX6_addPerson_44 (by decide) ?_
    refine lv_iadd hx hb dX6_addPerson_45 ?_
    refine va_put (D := G.1) (ci := 6) (v := .int (np + 1)) (ty := .int) (C := RX6) (T := TX6) (N := 11) hx hb hts hinX6 tyX6 tyX6_ok nmX6 hown hKK.1 hP hD hS 0 rfl rfl 1 (by decide) kl40 (fun _ h9 => h9) rfl (by decide +kernel) rfl rfl (Nat.le_of_ble_eq_true rfl) dX6_addPerson_46 (fun H locs hP hD hS => ?_)
    have hP : va_P G.1 vwCl [(t, .inr (6, [.int ns, .int (np + 1), .int fu, .int fd, .int fi, .ref t1, .ref t2, .ref t3, .ref t4, .ref t5, .ref t6])), aI G t1 9 sz_, aI G t2 9 pt, aI G t3 9 fh, aI G t4 8 (upd kd np.toNatClampNeg x), aI G t5 8 (upd nd np.toNatClampNeg z), aI G t6 8 (upd fw np.toNatClampNeg y)] H := hP
    have hD : va_D A [(t, .inr (6, [.int ns, .int (np + 1), .int fu, .int fd, .int fi, .ref t1, .ref t2, .ref t3, .ref t4, .ref t5, .ref t6])), aI G t1 9 sz_, aI G t2 9 pt, aI G t3 9 fh, aI G t4 8 (upd kd np.toNatClampNeg x), aI G t5 8 (upd nd np.toNatClampNeg z), aI G t6 8 (upd fw np.toNatClampNeg y)] := hD
    exact x_vret ((np + 1), (upd kd np.toNatClampNeg x), (upd nd np.toNatClampNeg z), (upd fw np.toNatClampNeg y)) hQ hx hb hr hlocks hS dX6_addPerson_49 hv hP hD
theorem v_X6_addPerson (l : Launch) (G : Gt) (t t1 t2 t3 t4 t5 t6 : Nat) (sz : Nat) (ns : Int32) (np : Int32) (fu : Int32) (fd : Int32) (fi : Int32) (sz_ : Nat → Int32) (pt : Nat → Int32) (fh : Nat → Int32) (kd : Nat → Int32) (nd : Nat → Int32) (fw : Nat → Int32) (x : Int32) (y : Int32) (z : Int32) (hp : vp_in np 8 ∧ np < 8) : (8 ≤ np → (np : Int32) = np + 1 ∧ ((kd : Nat → Int32) = upd kd np.toNatClampNeg x) ∧ ((nd : Nat → Int32) = upd nd np.toNatClampNeg z) ∧ ((fw : Nat → Int32) = upd fw np.toNatClampNeg y)) ∧ (¬ (8 ≤ np) → (vp_in np 8) ∧ ((vp_in np 8) ∧ ((vp_in np 8) ∧ (((np + 1) : Int32) = np + 1 ∧ (((upd kd np.toNatClampNeg x) : Nat → Int32) = upd kd np.toNatClampNeg x) ∧ (((upd nd np.toNatClampNeg z) : Nat → Int32) = upd nd np.toNatClampNeg z) ∧ (((upd fw np.toNatClampNeg y) : Nat → Int32) = upd fw np.toNatClampNeg y))))) := by
  obtain ⟨h1, h2⟩ := hp
  simp_all
theorem k_X6_addPerson (l : Launch) (G : Gt) (t t1 t2 t3 t4 t5 t6 : Nat) (sz : Nat) (ns : Int32) (np : Int32) (fu : Int32) (fd : Int32) (fi : Int32) (sz_ : Nat → Int32) (pt : Nat → Int32) (fh : Nat → Int32) (kd : Nat → Int32) (nd : Nat → Int32) (fw : Nat → Int32) (x : Int32) (y : Int32) (z : Int32) (hp : vp_in np 8 ∧ np < 8) : MetV l yX6_addPerson wsX6_addPerson 0 0 G [.ref t, .int x, .int y, .int z] [(t, .inr (6, [.int ns, .int np, .int fu, .int fd, .int fi, .ref t1, .ref t2, .ref t3, .ref t4, .ref t5, .ref t6])), aI G t1 9 sz_, aI G t2 9 pt, aI G t3 9 fh, aI G t4 8 kd, aI G t5 8 nd, aI G t6 8 fw] sz (fun (u : (Int32) × (Nat → Int32) × (Nat → Int32) × (Nat → Int32)) => (u.1 : Int32) = np + 1 ∧ ((u.2.1 : Nat → Int32) = upd kd np.toNatClampNeg x) ∧ ((u.2.2.1 : Nat → Int32) = upd nd np.toNatClampNeg z) ∧ ((u.2.2.2 : Nat → Int32) = upd fw np.toNatClampNeg y)) (fun (u : (Int32) × (Nat → Int32) × (Nat → Int32) × (Nat → Int32)) => [(t, .inr (6, [.int ns, .int u.1, .int fu, .int fd, .int fi, .ref t1, .ref t2, .ref t3, .ref t4, .ref t5, .ref t6])), aI G t1 9 sz_, aI G t2 9 pt, aI G t3 9 fh, aI G t4 8 u.2.1, aI G t5 8 u.2.2.1, aI G t6 8 u.2.2.2]) :=
  c_X6_addPerson l G t t1 t2 t3 t4 t5 t6 sz ns np fu fd fi sz_ pt fh kd nd fw x y z (v_X6_addPerson l G t t1 t2 t3 t4 t5 t6 sz ns np fu fd fi sz_ pt fh kd nd fw x y z hp)
