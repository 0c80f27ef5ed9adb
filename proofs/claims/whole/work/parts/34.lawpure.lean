/-! the law's invariant -/
theorem zSum_lec {v : Nat → Int} {o : Nat} {c : Int} : ∀ {n : Nat}, (∀ i, i < n → v (o + i) ≤ c) → zSum v o n ≤ n * c
  | 0, _ => by rw [zSum]; omega
  | n + 1, h => by
    rw [zSum]
    have h1 := zSum_lec (n := n) (fun i hi => h i (by omega))
    have h2 := h n (by omega)
    have e : ((n + 1 : Nat) : Int) * c = n * c + c := by rw [Int.natCast_add, Int.add_mul]; simp
    rw [e]; omega
theorem zBeg_ok {t : PTn} {s M : Int} (h : POK t) (h0 : 0 ≤ s) (h9 : s < 2147483648) (hM : 0 ≤ M) : NOK t.2.2.1 t.1 t.2.1 (fun _ => 2 * M) M (zBeg t.2.2.1 s) := by
  obtain ⟨⟨k1, k2, k3, k4, -⟩, k6, k7⟩ := h
  have eb : ∀ b, b < t.1 → zBeg t.2.2.1 s b = t.2.2.1 5 b := fun b hb => if_pos (by omega)
  have ew : ∀ p, p < t.2.1 → zBeg t.2.2.1 s (10 + p) = t.2.2.1 6 p := fun p hp => by unfold zBeg; rw [if_neg (by omega), if_pos (by omega), Nat.add_sub_cancel_left]
  have es : ∀ p, p < t.2.1 → zBeg t.2.2.1 s (20 + p) = -1 := fun p hp => by unfold zBeg; rw [if_neg (by omega), if_neg (by omega), if_pos (by omega)]
  have ez : ∀ i, 30 ≤ i → i ≠ 133 → zBeg t.2.2.1 s i = 0 := fun i h1 h2 => by unfold zBeg; rw [if_neg (by omega), if_neg (by omega), if_neg (by omega), if_neg h2]
  refine ⟨fun b hb => ?_, fun p hp => ?_, fun p q hp hq hn he => es p hp, fun p b hp hb => ?_, ?_, ?_, ?_, ?_⟩
  · rw [eb b hb]; exact k6 b hb
  · rw [ew p hp, es p hp, ez _ (by omega) (by omega), ez _ (by omega) (by omega), ez _ (by omega) (by omega)]
    have := k7 p hp
    dsimp only
    omega
  · rw [ez _ (by omega) (by omega)]; omega
  · rw [ez _ (by omega) (by omega)]; omega
  · have e : zBeg t.2.2.1 s 133 = s := rfl
    rw [e]; omega
  · rw [ez _ (by omega) (by omega)]; omega
  · rw [ez 134 (by omega) (by omega)]
    have a := zSum_lec (v := zBeg t.2.2.1 s) (o := 0) (c := 9999) (n := t.1) (fun i hi => by rw [Nat.zero_add, eb i hi]; have := k6 i hi; have := k3 i hi; omega)
    have b := zSum_lec (v := zBeg t.2.2.1 s) (o := 10) (c := 9999) (n := t.2.1) (fun i hi => by rw [ew i hi]; have := k7 i hi; omega)
    omega
section QOK
variable {T : Nat → Nat → Int} {ns np : Nat} {k : Nat → Int} {M : Int} {v : Nat → Int}
theorem qSit_ok (hT : TOK T ns np) (h : NOK T ns np k M v) (p b : Int) : NOK T ns np k M (qSit ns np v p b).2 := by
  unfold qSit
  split
  · exact h
  · rename_i q
    split
    · exact h
    · rename_i q2
      refine NOK_seat hT h (by omega) ?_
      by_cases e : b = -1
      · exact Or.inl e
      · refine Or.inr ⟨by omega, by omega, fun r hr hn he => ?_⟩
        have hf : zFirst v b.toNat np = none ∨ zFirst v b.toNat np = some p.toNat := by
          by_cases z : zFirst v b.toNat np = none
          · exact Or.inl z
          · by_cases z2 : zFirst v b.toNat np = some p.toNat
            · exact Or.inr z2
            · exact absurd ⟨by omega, z, z2⟩ q2
        have he2 : v (20 + r) = (b.toNat : Int) := by rw [he]; omega
        rcases hf with z | z
        · exact absurd (zFirst_none_iff.mp z) (zEmpty_not he2 hr)
        · rcases zFirst_cases v b.toNat np with ⟨h1, h2⟩ | ⟨p', h1, h2, h3, -⟩
          · rw [h2] at z; cases z
          · rw [h2] at z
            have ep : p' = p.toNat := Option.some.inj z
            subst ep
            have := h.2.2.1 r p.toNat hr h1 hn (he2.trans h3.symm)
            omega
theorem NOK_own (hT : TOK T ns np) (h : NOK T ns np k M v) {p b : Nat} {x : Int} (hp : p < np) (hb : b < ns) (h0 : 0 ≤ x) (h9 : x ≤ 99999) : NOK T ns np k M (uz v (60 + (9 * p + b)) x) := by
  obtain ⟨t1, t2, -⟩ := hT
  obtain ⟨h1, h2, h3, h4, h5, h6, h7, h8⟩ := h
  have sm : ∀ j, j ≠ 60 + (9 * p + b) → uz v (60 + (9 * p + b)) x j = v j := fun j q => uz_ne q
  refine ⟨fun c hc => ?_, fun q hq => ?_, fun q r hq hr hn he => ?_, fun q c hq hc => ?_, ?_, ?_, ?_, ?_⟩
  · rw [sm _ (by omega)]; exact h1 c hc
  · rw [sm (10 + q) (by omega), sm (20 + q) (by omega), sm (30 + q) (by omega), sm (40 + q) (by omega), sm (50 + q) (by omega)]
    exact h2 q hq
  · rw [sm (20 + q) (by omega)] at he ⊢
    rw [sm (20 + r) (by omega)] at he
    exact h3 q r hq hr hn he
  · by_cases e : 60 + (9 * q + c) = 60 + (9 * p + b)
    · rw [e, uz_eq]; omega
    · rw [sm _ e]; exact h4 q c hq hc
  · rw [sm _ (by omega)]; exact h5
  · rw [sm _ (by omega)]; exact h6
  · rw [sm _ (by omega)]; exact h7
  · rw [sm _ (by omega), zSum_out (by omega), zSum_out (by omega)]; exact h8
theorem qOwn_ok (hT : TOK T ns np) (h : NOK T ns np k M v) (p b n : Int) : NOK T ns np k M (qOwn ns np v p b n).2 := by
  unfold qOwn
  split
  · exact h
  · rename_i q
    split
    · exact h
    · rename_i q2
      have a := h.2.2.2.1 p.toNat b.toNat (by omega) (by omega)
      refine NOK_own hT h (by omega) (by omega) ?_ ?_ <;> (unfold minZ; split <;> omega)
theorem qTrade_ok (hT : TOK T ns np) (h : NOK T ns np k M v) (p q b n : Int) : NOK T ns np k M (qTrade ns np v p q b n).2 := by
  unfold qTrade
  split
  · exact h
  · rename_i q1
    split
    · exact h
    · split
      · exact h
      · split
        · exact h
        · rename_i q2 q3 q4
          have a := h.2.2.2.1 p.toNat b.toNat (by omega) (by omega)
          have a2 := h.2.2.2.1 q.toNat b.toNat (by omega) (by omega)
          exact NOK_own hT (NOK_own hT h (by omega) (by omega) (by omega) (by omega)) (by omega) (by omega) (by omega) (by omega)
theorem NOK_zero (hT : TOK T ns np) (h : NOK T ns np k M v) {p i : Nat} (hp : p < np) (hi : i = 50 + p ∨ i = 40 + p) : NOK T ns np k M (uz v i 0) := by
  obtain ⟨t1, t2, -⟩ := hT
  obtain ⟨h1, h2, h3, h4, h5, h6, h7, h8⟩ := h
  have sm : ∀ j, j ≠ i → uz v i 0 j = v j := fun j q => uz_ne q
  refine ⟨fun c hc => ?_, fun q hq => ?_, fun q r hq hr hn he => ?_, fun q c hq hc => ?_, ?_, ?_, ?_, ?_⟩
  · rw [sm _ (by omega)]; exact h1 c hc
  · rw [sm (10 + q) (by omega), sm (20 + q) (by omega), sm (30 + q) (by omega)]
    have a := h2 q hq
    refine ⟨a.1, a.2.1, a.2.2.1, ?_, ?_⟩
    · by_cases e : 40 + q = i
      · rw [e, uz_eq]; omega
      · rw [sm _ e]; exact a.2.2.2.1
    · by_cases e : 50 + q = i
      · rw [e, uz_eq]; omega
      · rw [sm _ e]; exact a.2.2.2.2
  · rw [sm (20 + q) (by omega)] at he ⊢
    rw [sm (20 + r) (by omega)] at he
    exact h3 q r hq hr hn he
  · rw [sm _ (by omega)]; exact h4 q c hq hc
  · rw [sm _ (by omega)]; exact h5
  · rw [sm _ (by omega)]; exact h6
  · rw [sm _ (by omega)]; exact h7
  · rw [sm _ (by omega), zSum_out (by omega), zSum_out (by omega)]; exact h8
theorem qForgive_ok (hT : TOK T ns np) (h : NOK T ns np k M v) (p : Int) : NOK T ns np k M (qForgive np v p).2 := by
  unfold qForgive
  split
  · exact NOK_zero hT (NOK_zero hT h (p := p.toNat) (by omega) (Or.inl rfl)) (p := p.toNat) (by omega) (Or.inr rfl)
  · exact h
theorem qSeed_ok (hT : TOK T ns np) (h : NOK T ns np k M v) (x : Int32) : NOK T ns np k M (qSeed v x.toInt).2 := by
  have hx := fb_rng x
  unfold qSeed
  split
  · exact h
  · exact NOK_seed hT h (by omega) (by omega)
theorem qGo_ok {M2 : Int} (hT : TOK T ns np) (h : NOK T ns np (fun _ => 2 * M) M v) (n : Int) (hM : M + 999 ≤ M2) : NOK T ns np (fun _ => 2 * M2) M2 (qGo T ns np v n).2 := by
  unfold qGo
  split
  · exact NOK_bump (zGo_ok hT h n.toNat) (fun _ => by omega) (by omega)
  · exact NOK_bump h (fun _ => by omega) (by omega)
theorem qDrift_ok {M2 : Int} (hT : TOK T ns np) (h : NOK T ns np (fun _ => 2 * M) M v) (n : Int) (hM : M + 999 ≤ M2) : NOK T ns np (fun _ => 2 * M2) M2 (qDrift T ns np v n).2 := by
  unfold qDrift
  split
  · exact NOK_bump (zDrift_ok hT h n.toNat) (fun _ => by omega) (by omega)
  · exact NOK_bump h (fun _ => by omega) (by omega)
end QOK
def IMG (M : Int) (T : Nat → Nat → Int) (Ns Np : Nat) (v0 v1 : Nat → Int) (kp : Int32) (hty : Nat → Int32) (wmy : Nat → Int32) (sey : Nat → Int32) (cdy : Nat → Int32) (sly : Nat → Int32) (ody : Nat → Int32) (owy : Nat → Int32) (loy : Int32) (miy : Int32) (sdy : Int32) (htz : Nat → Int32) (wmz : Nat → Int32) (sez : Nat → Int32) (cdz : Nat → Int32) (slz : Nat → Int32) (odz : Nat → Int32) (owz : Nat → Int32) (loz : Int32) (miz : Int32) (sdz : Int32) (mw : Nat → Int64) (ik : Nat → Int32) : Prop :=
  ((bt kp 0 = true ↔ ¬ ik 0 = 0) ∧ (bt kp 1 = true ↔ ¬ ik 1 = 0)) ∧ (bt kp 0 = true → CN Ns Np v0 hty wmy sey cdy sly ody owy loy miy sdy ∧ MR 280 mw v0 ∧ NOK T Ns Np (fun _ => 2 * M) M v0) ∧ (bt kp 1 = true → CN Ns Np v1 htz wmz sez cdz slz odz owz loz miz sdz ∧ MR 420 mw v1 ∧ NOK T Ns Np (fun _ => 2 * M) M v1)
def BK (Ns ek : Nat) (en : Int32) (bs bh : Nat → Int32) (bk bm : Nat → Int32) (wr : Int32) : Prop :=
  en = nI ek ∧ wr = nI ek ∧ ek ≤ 30 ∧ bk = bs ∧ bm = bh ∧ ∀ j, j < ek → 0 ≤ (bs j).toInt ∧ (bs j).toInt < Ns
/-- behind j calls -/
def LI (jj : Nat) (ns : Int32) (np : Int32) (fu : Int32) (fd : Int32) (fi : Int32) (sz_ : Nat → Int32) (pt : Nat → Int32) (kd : Nat → Int32) (nd : Nat → Int32) (ht : Nat → Int32) (wm : Nat → Int32) (se : Nat → Int32) (cd : Nat → Int32) (sl : Nat → Int32) (od : Nat → Int32) (ow : Nat → Int32) (lo : Int32) (mi : Int32) (sd : Int32) (xb : Nat → Int32) (xl : Int32) (xf : Int32) (en : Int32) (bs : Nat → Int32) (bh : Nat → Int32) (kp : Int32) (hty : Nat → Int32) (wmy : Nat → Int32) (sey : Nat → Int32) (cdy : Nat → Int32) (sly : Nat → Int32) (ody : Nat → Int32) (owy : Nat → Int32) (loy : Int32) (miy : Int32) (sdy : Int32) (htz : Nat → Int32) (wmz : Nat → Int32) (sez : Nat → Int32) (cdz : Nat → Int32) (slz : Nat → Int32) (odz : Nat → Int32) (owz : Nat → Int32) (loz : Int32) (miz : Int32) (sdz : Int32) (mwM : Nat → Int64) (ikM : Nat → Int32) (fuM : Int32) (fdM : Int32) (fiM : Int32) (zsM : Nat → Int32) (clM : Nat → Int32) (ksM : Nat → Int32) (neM : Nat → Int32) (mnM : Nat → Int32) (txM : Nat → Int32) (tsM : Int32) (faM : Int32) (bkM : Nat → Int32) (bhM : Nat → Int32) (wrM : Int32) : Prop :=
  ∃ (T : Nat → Nat → Int) (Ns Np : Nat) (v v0 v1 : Nat → Int) (B : Nat → Int) (Lx ek : Nat), TOK T Ns Np ∧ CT T Ns Np ns np fu fd fi sz_ pt kd nd ∧ CN Ns Np v ht wm se cd sl od ow lo mi sd ∧ MT T Ns Np fuM fdM fiM zsM clM ksM neM mnM ∧ MR 0 mwM v ∧ NOK T Ns Np (fun _ => 2 * (999 * (jj : Int))) (999 * (jj : Int)) v ∧ CX B Lx xb xl ∧ MX B Lx txM tsM ∧ xf = faM ∧ BK Ns ek en bs bh bkM bhM wrM ∧ IMG (999 * (jj : Int)) T Ns Np v0 v1 kp hty wmy sey cdy sly ody owy loy miy sdy htz wmz sez cdz slz odz owz loz miz sdz mwM ikM
section IMS
variable {M M2 : Int} {T : Nat → Nat → Int} {Ns Np : Nat} {v0 v1 : Nat → Int} {kp : Int32} {hty : Nat → Int32} {wmy : Nat → Int32} {sey : Nat → Int32} {cdy : Nat → Int32} {sly : Nat → Int32} {ody : Nat → Int32} {owy : Nat → Int32} {loy : Int32} {miy : Int32} {sdy : Int32} {htz : Nat → Int32} {wmz : Nat → Int32} {sez : Nat → Int32} {cdz : Nat → Int32} {slz : Nat → Int32} {odz : Nat → Int32} {owz : Nat → Int32} {loz : Int32} {miz : Int32} {sdz : Int32} {mw mw2 : Nat → Int64} {ik : Nat → Int32}
theorem IMG.mono (h : IMG M T Ns Np v0 v1 kp hty wmy sey cdy sly ody owy loy miy sdy htz wmz sez cdz slz odz owz loz miz sdz mw ik) (hM : M ≤ M2) : IMG M2 T Ns Np v0 v1 kp hty wmy sey cdy sly ody owy loy miy sdy htz wmz sez cdz slz odz owz loz miz sdz mw ik :=
  ⟨h.1, fun q => ⟨(h.2.1 q).1, (h.2.1 q).2.1, NOK_bump (h.2.1 q).2.2 (fun _ => by omega) hM⟩, fun q => ⟨(h.2.2 q).1, (h.2.2 q).2.1, NOK_bump (h.2.2 q).2.2 (fun _ => by omega) hM⟩⟩
theorem MR.fr {X : Nat} {w w2 : Nat → Int64} {v : Nat → Int} (h : MR X w v) (hq : ∀ j, X ≤ j → j < X + 140 → w2 j = w j) : MR X w2 v := fun i hi => by rw [hq _ (by omega) (by omega)]; exact h i hi
theorem IMG.fr (h : IMG M T Ns Np v0 v1 kp hty wmy sey cdy sly ody owy loy miy sdy htz wmz sez cdz slz odz owz loz miz sdz mw ik) (hq : ∀ j, 280 ≤ j → mw2 j = mw j) : IMG M T Ns Np v0 v1 kp hty wmy sey cdy sly ody owy loy miy sdy htz wmz sez cdz slz odz owz loz miz sdz mw2 ik :=
  ⟨h.1, fun q => ⟨(h.2.1 q).1, (h.2.1 q).2.1.fr (fun j h1 _ => hq j (by omega)), (h.2.1 q).2.2⟩, fun q => ⟨(h.2.2 q).1, (h.2.2 q).2.1.fr (fun j h1 _ => hq j (by omega)), (h.2.2 q).2.2⟩⟩
end IMS
theorem MF.hi0 {w w2 : Nat → Int64} (h : MF 0 w w2) : ∀ j, 280 ≤ j → w2 j = w j := fun j hj => h j (Or.inr (by omega))
theorem MF.hi140 {w w2 : Nat → Int64} (h : MF 140 w w2) : ∀ j, 280 ≤ j → w2 j = w j := fun j hj => h j (Or.inr (by omega))
theorem MF.lo140 {w w2 : Nat → Int64} {v : Nat → Int} (h : MF 140 w w2) (hr : MR 0 w v) : MR 0 w2 v := hr.fr (fun j _ hj => h j (Or.inl (by omega)))
theorem bt_or10 (x : Int32) : bt (x ||| 1) 0 = true := by simp [bt]
theorem bt_or11 (x : Int32) : bt (x ||| 1) 1 = bt x 1 := by simp [bt]
theorem bt_or20 (x : Int32) : bt (x ||| 2) 0 = bt x 0 := by simp [bt]
theorem bt_or21 (x : Int32) : bt (x ||| 2) 1 = true := by simp [bt]
theorem bt_zero (i : Nat) : bt 0 i = false := by simp [bt]
theorem MT_fr {T : Nat → Nat → Int} {ns np : Nat} {fu fd fi : Int32} {zs cl ks ne mn zs2 cl2 ks2 ne2 mn2 : Nat → Int32} (hT : TOK T ns np) (h : MT T ns np fu fd fi zs cl ks ne mn) (m1 : fr2 mn mn2) (m2 : fr10 zs zs2) (m3 : fr10 cl cl2) (m4 : fr10 ks ks2) (m5 : fr10 ne ne2) : MT T ns np fu fd fi zs2 cl2 ks2 ne2 mn2 := by
  have t1 := hT.1
  have t2 := hT.2.1
  exact ⟨m1.1.trans h.1, m1.2.trans h.2.1, fun b hb => by rw [m2 b (by omega), m3 b (by omega)]; exact h.2.2.1 b hb, fun p hp => by rw [m4 p (by omega), m5 p (by omega)]; exact h.2.2.2.1 p hp, h.2.2.2.2⟩
theorem CN_agr {Ns Np : Nat} {v u : Nat → Int} {ht : Nat → Int32} {wm : Nat → Int32} {se : Nat → Int32} {cd : Nat → Int32} {sl : Nat → Int32} {od : Nat → Int32} {ow : Nat → Int32} {lo : Int32} {mi : Int32} {sd : Int32} (h : CN Ns Np v ht wm se cd sl od ow lo mi sd) (g : agr Ns Np v u) : CN Ns Np u ht wm se cd sl od ow lo mi sd := ⟨fun i hi => (h.1 i hi).trans (g i hi), h.2⟩
