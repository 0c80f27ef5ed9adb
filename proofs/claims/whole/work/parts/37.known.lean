set_option maxHeartbeats 4000000 in
set_option maxRecDepth 100000 in
theorem law_known {s : State} {args : Array Value} (hts : ∀ w ∈ lw_tbl, w.before args s = true) (hgv : (Jvm.Cond.and given_1 narrow_1).before args s = true) : ∃ G : Gt, KK G s ∧ SS G (fun q => s.heap.size ≤ q) s s.heap ∧ va_AO "WarmStones$Night" s := by
  have hS : ∀ w ∈ wsL_law, w.before args s = true := fun w h => hts w (wsL_law_in w h)
  have hf := flat_of_before _ hgv
  have hA : ∀ a : Nat, a < s.heap.size → ¬ (s.heap.size ≤ a) := fun a h => Nat.not_le.mpr h
  have mN : ∀ q ∈ nwq, Cond.methodLinkNest q.1 q.2.1 q.2.2 "WarmStones" ∈ lw_tbl := by decide +kernel
  obtain ⟨c0, i0, h0⟩ := u_known hts inX0 (hS (.instantiable RX0 3) (by decide +kernel))
  obtain ⟨c1, i1, h1⟩ := u_known hts inX1 (hS (.instantiable RX1 10) (by decide +kernel))
  obtain ⟨c2, i2, h2⟩ := u_known hts inX2 (hS (.instantiable RX2 7) (by decide +kernel))
  obtain ⟨c3, i3, h3⟩ := u_known hts inX3 (hS (.instantiable RX3 7) (by decide +kernel))
  obtain ⟨c4, i4, h4⟩ := u_known hts inX4 (hS (.instantiable RX4 2) (by decide +kernel))
  obtain ⟨c5, i5, h5⟩ := u_known hts inX5 (hS (.instantiable RX5 8) (by decide +kernel))
  obtain ⟨c6, i6, h6⟩ := u_known hts inX6 (hS (.instantiable RX6 11) (by decide +kernel))
  obtain ⟨c7, i7, h7⟩ := u_known hts inX7 (hS (.instantiable RX7 11) (by decide +kernel))
  obtain ⟨c8, i8, h8⟩ := u_known hts inX8 (hS (.instantiable RX8 29) (by decide +kernel))
  obtain ⟨cI, kI, mI, fI, gI, eI⟩ := Cond.arrayClass_spec (type := .int) (hS (.arrayClass .int) (by decide +kernel))
  obtain ⟨cB, kB, mB, fB, gB, eB⟩ := Cond.arrayClass_spec (type := .byte) (hS (.arrayClass .byte) (by decide +kernel))
  obtain ⟨cJ, kJ, mJ, fJ, gJ, eJ⟩ := Cond.arrayClass_spec (type := .long) (hS (.arrayClass .long) (by decide +kernel))
  obtain ⟨cZ, kZ, mZ, fZ, gZ, eZ⟩ := Cond.arrayClass_spec (type := .boolean) (hS (.arrayClass .boolean) (by decide +kernel))
  have hAO := hts (.arrayOver (.object "WarmStones$Night")) (by decide +kernel)
  obtain ⟨mN2, cN, kN, aN1, -, gN, eN, fN⟩ := Cond.arrayOver_spec (n := "WarmStones$Night") hAO
  obtain ⟨adK, adV, hS1, hS2⟩ := vk_Sof (args := args) (s := s) (N := 9) (tm := fun i => .string RX5 (stI.getD i 0)) (len := stL) (byt := stB) (A := fun q => s.heap.size ≤ q) (by decide +kernel)
    (fun i hi => hf _ ((by decide +kernel : ∀ i, i < 9 → Cond.exactly (.string RX5 (stI.getD i 0)) "java/lang/String" ∈ flatC (Jvm.Cond.and given_1 narrow_1)) i hi))
    (fun i hi => hf _ ((by decide +kernel : ∀ i, i < 9 → Cond.eq (.field (.string RX5 (stI.getD i 0)) "java/lang/String" "coder" "B") (.int 0) ∈ flatC (Jvm.Cond.and given_1 narrow_1)) i hi))
    (fun i hi => hf _ ((by decide +kernel : ∀ i, i < 9 → Cond.arrayOf (.field (.string RX5 (stI.getD i 0)) "java/lang/String" "value" "[B") .byte ∈ flatC (Jvm.Cond.and given_1 narrow_1)) i hi))
    (fun i hi => hf _ ((by decide +kernel : ∀ i, i < 9 → Cond.eq (.length (.field (.string RX5 (stI.getD i 0)) "java/lang/String" "value" "[B")) (.int (Int32.ofNat (stL.getD i 0))) ∈ flatC (Jvm.Cond.and given_1 narrow_1)) i hi))
    (fun i hi j hj => hf _ ((by decide +kernel : ∀ i, i < 9 → ∀ j, j < stL.getD i 0 → Cond.eq (.elem (.field (.string RX5 (stI.getD i 0)) "java/lang/String" "value" "[B") (.int (Int32.ofNat j))) (.int ((stB.getD i []).getD j 0)) ∈ flatC (Jvm.Cond.and given_1 narrow_1)) i hi j hj))
    (fun i j hi hj hn => ((by decide +kernel : ∀ i, i < 9 → ∀ j, j < 9 → i ≠ j → Cond.not (Cond.eq (.string RX5 (stI.getD i 0)) (.string RX5 (stI.getD j 0))) ∈ flatC (Jvm.Cond.and given_1 narrow_1) ∨ Cond.not (Cond.eq (.string RX5 (stI.getD j 0)) (.string RX5 (stI.getD i 0))) ∈ flatC (Jvm.Cond.and given_1 narrow_1)) i hi j hj hn).imp (hf _) (hf _)) hA
  have mR : ∀ i, i < 9 → Cond.stringRef RX5 (stI.getD i 0) (stT.getD i "") ∈ lw_tbl := by decide +kernel
  refine ⟨((fun c => [c0, c1, c2, c3, c4, c5, c6, c7, c8].getD c c0, fun c => [i0, i1, i2, i3, i4, i5, i6, i7, i8].getD c i0), cI, cB, cJ, cZ, cN, adK, adV), ⟨⟨?_, ?_⟩, fun q hq => va_Nw.of rfl (hts _ (mN q hq))⟩, ⟨hS1, fun i hi => vk_R.of (hts _ (mR i hi)) (hS2 i hi), ?_, ?_⟩, va_AO.of hAO⟩
  · intro c q h
    have hc : c < 9 := (List.getElem?_eq_some_iff.mp h).1
    match c, h, hc with
    | 0, h, _ => obtain rfl := Option.some.inj h; exact h0
    | 1, h, _ => obtain rfl := Option.some.inj h; exact h1
    | 2, h, _ => obtain rfl := Option.some.inj h; exact h2
    | 3, h, _ => obtain rfl := Option.some.inj h; exact h3
    | 4, h, _ => obtain rfl := Option.some.inj h; exact h4
    | 5, h, _ => obtain rfl := Option.some.inj h; exact h5
    | 6, h, _ => obtain rfl := Option.some.inj h; exact h6
    | 7, h, _ => obtain rfl := Option.some.inj h; exact h7
    | 8, h, _ => obtain rfl := Option.some.inj h; exact h8
    | n + 9, _, hc => exact absurd hc (by omega)
  · intro k q h
    have hc : k < 5 := (List.getElem?_eq_some_iff.mp h).1
    match k, h, hc with
    | 0, h, _ => obtain rfl := Option.some.inj h; exact ⟨fun N z => ⟨(fun k h => by cases h), kI, gI, mI, eI⟩, fI⟩
    | 1, h, _ => obtain rfl := Option.some.inj h; exact ⟨fun N z => ⟨(fun k h => by cases h), kB, gB, mB, eB⟩, fB⟩
    | 2, h, _ => obtain rfl := Option.some.inj h; exact ⟨fun N z => ⟨(fun k h => by cases h), kJ, gJ, mJ, eJ⟩, fJ⟩
    | 3, h, _ => obtain rfl := Option.some.inj h; exact ⟨fun N z => ⟨(fun k h => by cases h), kZ, gZ, mZ, eZ⟩, fZ⟩
    | 4, h, _ => obtain rfl := Option.some.inj h; exact ⟨fun N z => ⟨(fun k h => by cases h), kN, gN, mN2, eN⟩, kN, mN2, gN, eN, aN1, fN⟩
    | n + 5, _, hc => exact absurd hc (by omega)
  · exact va_Zof (hts (.laysStatic "java/lang/String" "COMPACT_STRINGS" "Z") (by decide +kernel)) (hts (.initialized "java/lang/String") (by decide +kernel)) (va_eqt (hf (.eq (.static "java/lang/String" "COMPACT_STRINGS" "Z") (.int 1)) (by decide +kernel))) hA
  · exact va_Zqof (hts (.laysStatic "jdk/internal/util/Preconditions" "SIOOBE_FORMATTER" "Ljava/util/function/BiFunction;") (by decide +kernel)) (hts (.initialized "jdk/internal/util/Preconditions") (by decide +kernel)) (hf (.isRef (.static "jdk/internal/util/Preconditions" "SIOOBE_FORMATTER" "Ljava/util/function/BiFunction;")) (by decide +kernel)) hA
