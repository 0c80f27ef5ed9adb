theorem v_X8_town (l : Launch) (G : Gt) (m0 m1 m2 m3 m4 m5 m6 m7 m8 m9 m10 m11 m12 m13 m14 : Nat) (sz : Nat) (mw : Nat → Int64) (ik : Nat → Int32) (zs : Nat → Int32) (cl : Nat → Int32) (hs : Nat → Int32) (ks : Nat → Int32) (wa : Nat → Int32) (ne : Nat → Int32) (mn : Nat → Int32) (tx : Nat → Int32) (th : Nat → Int32) (od : Nat → Int32) (bk : Nat → Int32) (bh : Nat → Int32) (fu : Int32) (fd : Int32) (fi : Int32) (nu : Int32) (nw : Int32) (nf : Int32) (bf : Int32) (bn : Int32) (ts : Int32) (ap : Int32) (fs : Int32) (ln : Int32) (fo : Int32) (fa : Int32) (wr : Int32) (B : Nat → Int) (L : Nat) (hp : MX B L tx ts) : ∀ (fm9_1 : (Nat → Int32)), (fm9_1 = (upd mn 2 0)) → (∀ (fm9_2 : (Nat → Int32)), (fm9_2 = (upd fm9_1 3 0)) → (∃ (I54_20 : (Nat → Int32) → (Nat → Int32) → (Nat → Int32) → (Nat → Int32) → (Nat → Int32) → (Nat → Int32) → (Nat → Int32) → Int32 → Int32 → Int32 → Int32 → Int32 → Int32 → Int32 → Int32 → Int32 → Int32 → Prop) (μ54_21 : (Nat → Int32) → (Nat → Int32) → (Nat → Int32) → (Nat → Int32) → (Nat → Int32) → (Nat → Int32) → (Nat → Int32) → Int32 → Int32 → Int32 → Int32 → Int32 → Int32 → Int32 → Int32 → Int32 → Int32 → Nat), I54_20 zs cl hs ks wa ne fm9_2 3 1 0 0 0 0 fs ln 0 (-1) ∧ (∀ (fm3_3 : (Nat → Int32)) (fm4_4 : (Nat → Int32)) (fm5_5 : (Nat → Int32)) (fm6_6 : (Nat → Int32)) (fm7_7 : (Nat → Int32)) (fm8_8 : (Nat → Int32)) (fm9_9 : (Nat → Int32)) (gm012_10 : Int32) (gm013_11 : Int32) (gm014_12 : Int32) (gm015_13 : Int32) (gm016_14 : Int32) (gm019_15 : Int32) (gm020_16 : Int32) (gm021_17 : Int32) (gm022_18 : Int32) (gm023_19 : Int32), I54_20 fm3_3 fm4_4 fm5_5 fm6_6 fm7_7 fm8_8 fm9_9 gm012_10 gm013_11 gm014_12 gm015_13 gm016_14 gm019_15 gm020_16 gm021_17 gm022_18 gm023_19 → (¬ gm022_18 = 0 → (gm022_18 ≤ 0 → ∀ (fm9_26 : (Nat → Int32)), (fm9_26 = (upd fm9_9 0 (fm9_9 2))) → (∀ (fm9_27 : (Nat → Int32)), (fm9_27 = (upd fm9_26 1 (fm9_26 3))) → (∃ (I145_35 : (Nat → Int32) → (Nat → Int32) → (Nat → Int32) → (Nat → Int32) → (Nat → Int32) → (Nat → Int32) → Int32 → Prop) (μ145_36 : (Nat → Int32) → (Nat → Int32) → (Nat → Int32) → (Nat → Int32) → (Nat → Int32) → (Nat → Int32) → Int32 → Nat), I145_35 fm3_3 fm4_4 fm5_5 fm6_6 fm7_7 fm8_8 0 ∧ (∀ (fm3_28 : (Nat → Int32)) (fm4_29 : (Nat → Int32)) (fm5_30 : (Nat → Int32)) (fm6_31 : (Nat → Int32)) (fm7_32 : (Nat → Int32)) (fm8_33 : (Nat → Int32)) (x1_34 : Int32), I145_35 fm3_28 fm4_29 fm5_30 fm6_31 fm7_32 fm8_33 x1_34 → (10 ≤ x1_34 → ∀ (mw2_41 : Nat → Int64), (MR 0 mw2_41 (bgR fm5_30 fm7_32 (mw 133).toInt) ∧ MF 0 mw mw2_41) → (∀ (fm2_42 : (Nat → Int32)), (fm2_42 = (upd ik 0 (vp_nar .boolean 0))) → (∀ (fm2_43 : (Nat → Int32)), (fm2_43 = (upd fm2_42 1 (vp_nar .boolean 0))) → (((0 : Int32) = 0 ∧ ((∃ f, paT B L = .inl f ∧ (fm9_27 0) = -10 - nI f.1 ∧ gm023_19 = nI f.2 ∧ mw2_41 = mw ∧ fm2_43 = ik ∧ gm012_10 = fu ∧ gm013_11 = fd ∧ gm014_12 = fi ∧ (0 : Int32) = wr ∧ fr2 mn fm9_27 ∧ fr10 zs fm3_28 ∧ fr10 cl fm4_29 ∧ fr10 ks fm6_31 ∧ fr10 ne fm8_33) ∨ (∃ z_, paT B L = .inr z_ ∧ (fm9_27 0) = nI z_.1 ∧ gm023_19 = -1 ∧ MT z_.2.2.1 z_.1 z_.2.1 gm012_10 gm013_11 gm014_12 fm3_28 fm4_29 fm6_31 fm8_33 fm9_27 ∧ (∃ u_, MR 0 mw2_41 u_ ∧ agr z_.1 z_.2.1 (zBeg z_.2.2.1 (mw 133).toInt) u_) ∧ (0 : Int32) = 0 ∧ fm2_43 0 = 0 ∧ fm2_43 1 = 0))))))) ∧ (¬ (10 ≤ x1_34) → (vp_in (10 + x1_34) 20) ∧ ((vp_in x1_34 20) ∧ (∀ (fm3_44 : (Nat → Int32)), (fm3_44 = (upd fm3_28 x1_34.toNatClampNeg (fm3_28 (10 + x1_34).toNatClampNeg))) → ((vp_in (10 + x1_34) 20) ∧ ((vp_in x1_34 20) ∧ (∀ (fm4_45 : (Nat → Int32)), (fm4_45 = (upd fm4_29 x1_34.toNatClampNeg (fm4_29 (10 + x1_34).toNatClampNeg))) → ((vp_in (10 + x1_34) 20) ∧ ((vp_in x1_34 20) ∧ (∀ (fm5_46 : (Nat → Int32)), (fm5_46 = (upd fm5_30 x1_34.toNatClampNeg (fm5_30 (10 + x1_34).toNatClampNeg))) → ((vp_in (10 + x1_34) 20) ∧ ((vp_in x1_34 20) ∧ (∀ (fm6_47 : (Nat → Int32)), (fm6_47 = (upd fm6_31 x1_34.toNatClampNeg (fm6_31 (10 + x1_34).toNatClampNeg))) → ((vp_in (10 + x1_34) 20) ∧ ((vp_in x1_34 20) ∧ (∀ (fm7_48 : (Nat → Int32)), (fm7_48 = (upd fm7_32 x1_34.toNatClampNeg (fm7_32 (10 + x1_34).toNatClampNeg))) → ((vp_in (10 + x1_34) 20) ∧ ((vp_in x1_34 20) ∧ (∀ (fm8_49 : (Nat → Int32)), (fm8_49 = (upd fm8_33 x1_34.toNatClampNeg (fm8_33 (10 + x1_34).toNatClampNeg))) → (I145_35 fm3_44 fm4_45 fm5_46 fm6_47 fm7_48 fm8_49 (x1_34 + 1) ∧ μ145_36 fm3_44 fm4_45 fm5_46 fm6_47 fm7_48 fm8_49 (x1_34 + 1) < μ145_36 fm3_28 fm4_29 fm5_30 fm6_31 fm7_32 fm8_33 x1_34))))))))))))))))))))))) ∧ (¬ (gm022_18 ≤ 0) → ((0 : Int32) = 0 ∧ ((∃ f, paT B L = .inl f ∧ ((-10) - gm022_18) = -10 - nI f.1 ∧ gm023_19 = nI f.2 ∧ mw = mw ∧ ik = ik ∧ fu = fu ∧ fd = fd ∧ fi = fi ∧ wr = wr ∧ fr2 mn fm9_9 ∧ fr10 zs fm3_3 ∧ fr10 cl fm4_4 ∧ fr10 ks fm6_6 ∧ fr10 ne fm8_8) ∨ (∃ z_, paT B L = .inr z_ ∧ ((-10) - gm022_18) = nI z_.1 ∧ gm023_19 = -1 ∧ MT z_.2.2.1 z_.1 z_.2.1 fu fd fi fm3_3 fm4_4 fm6_6 fm8_8 fm9_9 ∧ (∃ u_, MR 0 mw u_ ∧ agr z_.1 z_.2.1 (zBeg z_.2.2.1 (mw 133).toInt) u_) ∧ wr = 0 ∧ ik 0 = 0 ∧ ik 1 = 0))))) ∧ (gm022_18 = 0 → ∃ (gB_53 : Nat → Int) (gL_54 : Nat) (gaq_55 : Nat), ((MX gB_53 gL_54 tx ts ∧ gm019_15 = nI gaq_55 ∧ gaq_55 ≤ gL_54) ∧ (∀ (r_56 : Int32) (ap2_57 : Int32), (ap2_57 = nI (sk gB_53 gL_54 gaq_55) ∧ r_56.toInt = (if sk gB_53 gL_54 gaq_55 < gL_54 then gB_53 (sk gB_53 gL_54 gaq_55) else -1)) → ((r_56 < 0 → (gm022_18 ≤ 0 → ∀ (fm9_60 : (Nat → Int32)), (fm9_60 = (upd fm9_9 0 (fm9_9 2))) → (∀ (fm9_61 : (Nat → Int32)), (fm9_61 = (upd fm9_60 1 (fm9_60 3))) → (∃ (I145_69 : (Nat → Int32) → (Nat → Int32) → (Nat → Int32) → (Nat → Int32) → (Nat → Int32) → (Nat → Int32) → Int32 → Prop) (μ145_70 : (Nat → Int32) → (Nat → Int32) → (Nat → Int32) → (Nat → Int32) → (Nat → Int32) → (Nat → Int32) → Int32 → Nat), I145_69 fm3_3 fm4_4 fm5_5 fm6_6 fm7_7 fm8_8 0 ∧ (∀ (fm3_62 : (Nat → Int32)) (fm4_63 : (Nat → Int32)) (fm5_64 : (Nat → Int32)) (fm6_65 : (Nat → Int32)) (fm7_66 : (Nat → Int32)) (fm8_67 : (Nat → Int32)) (x1_68 : Int32), I145_69 fm3_62 fm4_63 fm5_64 fm6_65 fm7_66 fm8_67 x1_68 → (10 ≤ x1_68 → ∀ (mw2_75 : Nat → Int64), (MR 0 mw2_75 (bgR fm5_64 fm7_66 (mw 133).toInt) ∧ MF 0 mw mw2_75) → (∀ (fm2_76 : (Nat → Int32)), (fm2_76 = (upd ik 0 (vp_nar .boolean 0))) → (∀ (fm2_77 : (Nat → Int32)), (fm2_77 = (upd fm2_76 1 (vp_nar .boolean 0))) → (((0 : Int32) = 0 ∧ ((∃ f, paT B L = .inl f ∧ (fm9_61 0) = -10 - nI f.1 ∧ gm023_19 = nI f.2 ∧ mw2_75 = mw ∧ fm2_77 = ik ∧ gm012_10 = fu ∧ gm013_11 = fd ∧ gm014_12 = fi ∧ (0 : Int32) = wr ∧ fr2 mn fm9_61 ∧ fr10 zs fm3_62 ∧ fr10 cl fm4_63 ∧ fr10 ks fm6_65 ∧ fr10 ne fm8_67) ∨ (∃ z_, paT B L = .inr z_ ∧ (fm9_61 0) = nI z_.1 ∧ gm023_19 = -1 ∧ MT z_.2.2.1 z_.1 z_.2.1 gm012_10 gm013_11 gm014_12 fm3_62 fm4_63 fm6_65 fm8_67 fm9_61 ∧ (∃ u_, MR 0 mw2_75 u_ ∧ agr z_.1 z_.2.1 (zBeg z_.2.2.1 (mw 133).toInt) u_) ∧ (0 : Int32) = 0 ∧ fm2_77 0 = 0 ∧ fm2_77 1 = 0))))))) ∧ (¬ (10 ≤ x1_68) → (vp_in (10 + x1_68) 20) ∧ ((vp_in x1_68 20) ∧ (∀ (fm3_78 : (Nat → Int32)), (fm3_78 = (upd fm3_62 x1_68.toNatClampNeg (fm3_62 (10 + x1_68).toNatClampNeg))) → ((vp_in (10 + x1_68) 20) ∧ ((vp_in x1_68 20) ∧ (∀ (fm4_79 : (Nat → Int32)), (fm4_79 = (upd fm4_63 x1_68.toNatClampNeg (fm4_63 (10 + x1_68).toNatClampNeg))) → ((vp_in (10 + x1_68) 20) ∧ ((vp_in x1_68 20) ∧ (∀ (fm5_80 : (Nat → Int32)), (fm5_80 = (upd fm5_64 x1_68.toNatClampNeg (fm5_64 (10 + x1_68).toNatClampNeg))) → ((vp_in (10 + x1_68) 20) ∧ ((vp_in x1_68 20) ∧ (∀ (fm6_81 : (Nat → Int32)), (fm6_81 = (upd fm6_65 x1_68.toNatClampNeg (fm6_65 (10 + x1_68).toNatClampNeg))) → ((vp_in (10 + x1_68) 20) ∧ ((vp_in x1_68 20) ∧ (∀ (fm7_82 : (Nat → Int32)), (fm7_82 = (upd fm7_66 x1_68.toNatClampNeg (fm7_66 (10 + x1_68).toNatClampNeg))) → ((vp_in (10 + x1_68) 20) ∧ ((vp_in x1_68 20) ∧ (∀ (fm8_83 : (Nat → Int32)), (fm8_83 = (upd fm8_67 x1_68.toNatClampNeg (fm8_67 (10 + x1_68).toNatClampNeg))) → (I145_69 fm3_78 fm4_79 fm5_80 fm6_81 fm7_82 fm8_83 (x1_68 + 1) ∧ μ145_70 fm3_78 fm4_79 fm5_80 fm6_81 fm7_82 fm8_83 (x1_68 + 1) < μ145_70 fm3_62 fm4_63 fm5_64 fm6_65 fm7_66 fm8_67 x1_68))))))))))))))))))))))) ∧ (¬ (gm022_18 ≤ 0) → ((0 : Int32) = 0 ∧ ((∃ f, paT B L = .inl f ∧ ((-10) - gm022_18) = -10 - nI f.1 ∧ gm023_19 = nI f.2 ∧ mw = mw ∧ ik = ik ∧ fu = fu ∧ fd = fd ∧ fi = fi ∧ wr = wr ∧ fr2 mn fm9_9 ∧ fr10 zs fm3_3 ∧ fr10 cl fm4_4 ∧ fr10 ks fm6_6 ∧ fr10 ne fm8_8) ∨ (∃ z_, paT B L = .inr z_ ∧ ((-10) - gm022_18) = nI z_.1 ∧ gm023_19 = -1 ∧ MT z_.2.2.1 z_.1 z_.2.1 fu fd fi fm3_3 fm4_4 fm6_6 fm8_8 fm9_9 ∧ (∃ u_, MR 0 mw u_ ∧ agr z_.1 z_.2.1 (zBeg z_.2.2.1 (mw 133).toInt) u_) ∧ wr = 0 ∧ ik 0 = 0 ∧ ik 1 = 0))))) ∧ (¬ (r_56 < 0) → ∃ (gB_87 : Nat → Int) (gL_88 : Nat) (gaq_89 : Nat) (gtq_90 : PTn), ((MX gB_87 gL_88 tx ts ∧ CSo gL_88 gaq_89 gm022_18 gm023_19 ap2_57 ∧ MW gtq_90 fm3_3 fm4_4 fm5_5 fm6_6 fm7_7 fm8_8 fm9_9 gm012_10 gm013_11 gm014_12 gm015_13 gm016_14 ∧ gtq_90.1 ≤ 9 ∧ gtq_90.2.1 ≤ 8) ∧ (∀ (zs2_92 : Nat → Int32) (cl2_93 : Nat → Int32) (hs2_94 : Nat → Int32) (ks2_95 : Nat → Int32) (wa2_96 : Nat → Int32) (ne2_97 : Nat → Int32) (mn2_98 : Nat → Int32) (ap2_99 : Int32) (fs2_100 : Int32) (ln2_101 : Int32) (fo2_102 : Int32) (fa2_103 : Int32) (bf2_104 : Int32) (bn2_105 : Int32) (nu2_106 : Int32) (nw2_107 : Int32) (nf2_108 : Int32), (MP gL_88 (clR gB_87 gL_88 gaq_89 gtq_90) fo2_102 fa2_103 ap2_99 zs2_92 cl2_93 hs2_94 ks2_95 wa2_96 ne2_97 mn2_98 nu2_106 nw2_107 nf2_108 bf2_104 bn2_105 ∧ fr10 fm3_3 zs2_92 ∧ fr10 fm4_4 cl2_93 ∧ fr10 fm5_5 hs2_94 ∧ fr10 fm6_6 ks2_95 ∧ fr10 fm7_7 wa2_96 ∧ fr10 fm8_8 ne2_97 ∧ fr2 fm9_9 mn2_98) → (I54_20 zs2_92 cl2_93 hs2_94 ks2_95 wa2_96 ne2_97 mn2_98 nu2_106 nw2_107 nf2_108 bf2_104 bn2_105 ap2_99 fs2_100 ln2_101 fo2_102 fa2_103 ∧ μ54_21 zs2_92 cl2_93 hs2_94 ks2_95 wa2_96 ne2_97 mn2_98 nu2_106 nw2_107 nf2_108 bf2_104 bn2_105 ap2_99 fs2_100 ln2_101 fo2_102 fa2_103 < μ54_21 fm3_3 fm4_4 fm5_5 fm6_6 fm7_7 fm8_8 fm9_9 gm012_10 gm013_11 gm014_12 gm015_13 gm016_14 gm019_15 gm020_16 gm021_17 gm022_18 gm023_19))))))))))) := by
  have hX : MX B L tx ts := hp
  have hL := hX.1
  intro mna emna mnb emnb
  refine ⟨fun zs1 cl1 hs1 ks1 wa1 ne1 mn1 nu nw nf bf bn ap _ _ fo fa => ∃ (st : Flt ⊕ (Nat × PTn)), MP L st fo fa ap zs1 cl1 hs1 ks1 wa1 ne1 mn1 nu nw nf bf bn ∧ (fr10 zs zs1 ∧ fr10 cl cl1 ∧ fr10 ks ks1 ∧ fr10 ne ne1 ∧ fr2 mn mn1) ∧ (∀ x, st = .inl x → paT B L = .inl x) ∧ (∀ a t, st = .inr (a, t) → POK t ∧ paR B L a t = paT B L), fun _ _ _ _ _ _ _ _ _ _ _ _ ap _ _ fo _ => if fo = 0 then 402 - ap.toNatClampNeg else 0, ⟨.inr (0, 0, 0, T0n, false, false), ⟨⟨by omega, rfl, rfl, rfl⟩, ?_, ?_, fun b hb => absurd hb (Nat.not_lt_zero _), fun b hb => absurd hb (Nat.not_lt_zero _), rfl, rfl, rfl, rfl, rfl⟩, ⟨fr10.rf _, fr10.rf _, fr10.rf _, fr10.rf _, ?_, ?_⟩, fun x h => absurd h (by intro z; cases z), fun a t h => by cases h; exact ⟨POK_0, rfl⟩⟩, ?_⟩
  · rw [emnb, upd_ne (by omega), emna, upd_at]; rfl
  · rw [emnb, upd_at]; rfl
  · rw [emnb, upd_ne (by omega), emna, upd_ne (by omega)]
  · rw [emnb, upd_ne (by omega), emna, upd_ne (by omega)]
  rintro zs1 cl1 hs1 ks1 wa1 ne1 mn1 nu1 nw1 nf1 bf1 bn1 ap1 fs1 ln1 fo1 fa1 ⟨st, hM, hfr, hf, ho⟩
  cases st with
  | inl x =>
    have h : CSf L x fo1 fa1 ap1 := hM
    have e := hf x rfl
    refine ⟨fun _ => ⟨fun z => absurd z h.pos, fun _ => ⟨rfl, Or.inl ⟨x, e, by rw [h.2.2.1], h.2.2.2.1, rfl, rfl, rfl, rfl, rfl, rfl, hfr.2.2.2.2, hfr.1, hfr.2.1, hfr.2.2.1, hfr.2.2.2.1⟩⟩⟩, fun z => absurd z h.ne⟩
  | inr s =>
    obtain ⟨a, t⟩ := s
    obtain ⟨⟨ha, hfo, hfa, rfl⟩, hW⟩ := hM
    obtain ⟨o2, o3⟩ := ho a t rfl
    have ea : (nI a).toNatClampNeg = a := nI_clamp (by omega)
    refine ⟨fun z => absurd hfo z, fun _ => ⟨B, L, a, ⟨hX, rfl, ha⟩, fun r z hz => ?_⟩⟩
    obtain ⟨rfl, hr⟩ := hz
    have hsa := sk_L (B := B) ha
    have hneg : r < 0 ↔ ¬ sk B L a < L := by
      rw [i_lt hr i32_0]
      by_cases g : sk B L a < L
      · rw [if_pos g]
        have := (hX.2.2 _ g).1
        exact ⟨fun z => absurd z (by omega), fun z => absurd g z⟩
      · rw [if_neg g]
        exact ⟨fun _ => g, fun _ => by decide⟩
    rw [hneg]
    refine ⟨fun hend => ⟨fun _ => ?_, fun z => absurd (by rw [hfo]; decide) z⟩, fun hgo => ?_⟩
    · intro mn2 emn2 mn3 emn3
      refine ⟨fun zs2 cl2 hs2 ks2 wa2 ne2 z => ∃ i, i ≤ 10 ∧ z = nI i ∧ (∀ j, j < i → zs2 j = zs1 (10 + j) ∧ cl2 j = cl1 (10 + j) ∧ hs2 j = hs1 (10 + j) ∧ ks2 j = ks1 (10 + j) ∧ wa2 j = wa1 (10 + j) ∧ ne2 j = ne1 (10 + j)) ∧ (∀ j, 10 ≤ j → zs2 j = zs1 j ∧ cl2 j = cl1 j ∧ hs2 j = hs1 j ∧ ks2 j = ks1 j ∧ wa2 j = wa1 j ∧ ne2 j = ne1 j), fun _ _ _ _ _ _ z => 11 - z.toNatClampNeg, ⟨0, by omega, rfl, fun j hj => absurd hj (Nat.not_lt_zero _), fun j _ => ⟨rfl, rfl, rfl, rfl, rfl, rfl⟩⟩, ?_⟩
      rintro zs2 cl2 hs2 ks2 wa2 ne2 z ⟨i, hi, rfl, hlo, hhi⟩
      have ei : (nI i).toNatClampNeg = i := nI_clamp (by omega)
      have ei1 : nI i + 1 = nI (i + 1) := nI_1 i
      have ei2 : (nI (i + 1)).toNatClampNeg = i + 1 := nI_clamp (by omega)
      have e10 : 10 + nI i = nI (10 + i) := ix1 10 i
      have c10 : (nI (10 + i)).toNatClampNeg = 10 + i := nI_clamp (by omega)
      have hi10 : 10 ≤ nI i ↔ 10 ≤ i := nI_leI (a := 10) (by omega) (by omega)
      simp only [ei, ei1, ei2, e10, c10, hi10]
      refine ⟨fun g mw2 hmw ik2 eik2 ik3 eik3 => ⟨trivial, Or.inr ⟨t, ?_⟩⟩, fun g => ?_⟩
      · have e : i = 10 := by omega
        subst e
        obtain ⟨c1, c2, c3, c4, c5, c6, c7, c8, c9⟩ := hW
        have em0 : mn3 0 = nI t.1 := by rw [emn3, upd_ne (by omega), emn2, upd_at]; exact c1
        have em1 : mn3 1 = nI t.2.1 := by rw [emn3, upd_at, emn2, upd_ne (by omega)]; exact c2
        have hk := o2
        have h9 : t.1 ≤ 9 := hk.1.1
        have h8 : t.2.1 ≤ 8 := hk.1.2.1
        refine ⟨by rw [← o3]; exact pa_end hend, em0, hfa, ⟨em0, em1, fun b hb => ?_, fun p hp => ?_, c5, c6, c7⟩, ⟨_, hmw.1, bgR_ag h9 h8 (fun b hb => ?_) (fun p hp => ?_)⟩, trivial, ?_, ?_⟩
        · rw [(hlo b (by omega)).1, (hlo b (by omega)).2.1]; exact ⟨(c3 b hb).1, (c3 b hb).2.1⟩
        · rw [(hlo p (by omega)).2.2.2.1, (hlo p (by omega)).2.2.2.2.2]; exact ⟨(c4 p hp).1, (c4 p hp).2.2⟩
        · rw [(hlo b (by omega)).2.2.1]; exact (c3 b hb).2.2
        · rw [(hlo p (by omega)).2.2.2.2.1]; exact (c4 p hp).2.1
        · rw [eik3, upd_ne (by omega), eik2, upd_at]; rfl
        · rw [eik3, upd_at]; rfl
      · have va : vp_in (nI (10 + i)) 20 := vp_in_nI (by omega) (by omega)
        have vb : vp_in (nI i) 20 := vp_in_nI (by omega) (by omega)
        refine ⟨va, vb, fun z1 e1 => ⟨va, vb, fun z2 e2 => ⟨va, vb, fun z3 e3 => ⟨va, vb, fun z4 e4 => ⟨va, vb, fun z5 e5 => ⟨va, vb, fun z6 e6 => ⟨⟨i + 1, by omega, rfl, fun j hj => ?_, fun j hj => ?_⟩, by omega⟩⟩⟩⟩⟩⟩⟩
        · have hh := hhi (10 + i) (by omega)
          rw [e1, e2, e3, e4, e5, e6]
          by_cases u : j = i
          · subst u
            rw [upd_at, upd_at, upd_at, upd_at, upd_at, upd_at]
            exact hh
          · rw [upd_ne u, upd_ne u, upd_ne u, upd_ne u, upd_ne u, upd_ne u]
            exact hlo j (by omega)
        · have u : j ≠ i := by omega
          rw [e1, e2, e3, e4, e5, e6, upd_ne u, upd_ne u, upd_ne u, upd_ne u, upd_ne u, upd_ne u]
          exact hhi j hj
    · have hlt : sk B L a < L := Classical.not_not.mp hgo
      refine ⟨B, L, sk B L a, t, ⟨hX, ⟨hsa, hfo, hfa, rfl⟩, hW, o2.1.1, o2.1.2.1⟩, fun zs2 cl2 hs2 ks2 wa2 ne2 mn2 ap2 fs2 ln2 fo2 fa2 bf2 bn2 nu2 nw2 nf2 h2 => ?_⟩
      rw [clR_sk] at h2
      obtain ⟨h2, f1, f2, f3, f4, f5, f6, f7⟩ := h2
      refine ⟨⟨clR B L a t, h2, ⟨hfr.1.tr f1, hfr.2.1.tr f2, hfr.2.2.1.tr f4, hfr.2.2.2.1.tr f6, f7.1.trans hfr.2.2.2.2.1, f7.2.trans hfr.2.2.2.2.2⟩, fun x hx => ?_, fun a2 t2 hx => ?_⟩, ?_⟩
      · rw [← o3]; exact pa_flt ha hlt hx
      · have ck := clR_ok hx ha o2
        exact ⟨ck.2.2, by rw [← o3]; exact pa_go o2 ha hlt hx⟩
      · dsimp only
        rw [if_pos hfo, ea]
        cases hc : clR B L a t with
        | inl x =>
          rw [hc] at h2
          have h2 : CSf L x fo2 fa2 ap2 := h2
          rw [if_neg h2.ne]
          omega
        | inr s2 =>
          obtain ⟨a2, t2⟩ := s2
          rw [hc] at h2
          have ck := clR_ok hc ha o2
          obtain ⟨⟨k1, k2, k3, rfl⟩, -⟩ := h2
          have ea2 : (nI a2).toNatClampNeg = a2 := nI_clamp (by omega)
          rw [if_pos k2, ea2]
          omega
