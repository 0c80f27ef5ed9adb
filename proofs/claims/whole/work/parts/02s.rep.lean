/-! the class's night as such a row -/
def nuC (ht wm se cd sl od ow : Nat → Int32) (lo mi sd : Int32) : Nat → Int := fun i =>
  if i < 10 then (ht i).toInt else if i < 20 then (wm (i - 10)).toInt else if i < 30 then (se (i - 20)).toInt else if i < 40 then (cd (i - 30)).toInt else if i < 50 then (sl (i - 40)).toInt else if i < 60 then (od (i - 50)).toInt else if i < 132 then (ow (i - 60)).toInt else if i = 132 then mi.toInt else if i = 133 then sd.toInt else if i = 134 then lo.toInt else 0
section NU
variable {ht wm se cd sl od ow : Nat → Int32} {lo mi sd : Int32}
theorem nuC_ht {b : Nat} (h : b < 10) : nuC ht wm se cd sl od ow lo mi sd b = (ht b).toInt := if_pos h
theorem nuC_wm {p : Nat} (h : p < 10) : nuC ht wm se cd sl od ow lo mi sd (10 + p) = (wm p).toInt := by
  unfold nuC; rw [if_neg (by omega), if_pos (by omega), show 10 + p - 10 = p by omega]
theorem nuC_se {p : Nat} (h : p < 10) : nuC ht wm se cd sl od ow lo mi sd (20 + p) = (se p).toInt := by
  unfold nuC; rw [if_neg (by omega), if_neg (by omega), if_pos (by omega), show 20 + p - 20 = p by omega]
theorem nuC_cd {p : Nat} (h : p < 10) : nuC ht wm se cd sl od ow lo mi sd (30 + p) = (cd p).toInt := by
  unfold nuC; rw [if_neg (by omega), if_neg (by omega), if_neg (by omega), if_pos (by omega), show 30 + p - 30 = p by omega]
theorem nuC_sl {p : Nat} (h : p < 10) : nuC ht wm se cd sl od ow lo mi sd (40 + p) = (sl p).toInt := by
  unfold nuC; rw [if_neg (by omega), if_neg (by omega), if_neg (by omega), if_neg (by omega), if_pos (by omega), show 40 + p - 40 = p by omega]
theorem nuC_od {p : Nat} (h : p < 10) : nuC ht wm se cd sl od ow lo mi sd (50 + p) = (od p).toInt := by
  unfold nuC; rw [if_neg (by omega), if_neg (by omega), if_neg (by omega), if_neg (by omega), if_neg (by omega), if_pos (by omega), show 50 + p - 50 = p by omega]
theorem nuC_ow {k : Nat} (h : k < 72) : nuC ht wm se cd sl od ow lo mi sd (60 + k) = (ow k).toInt := by
  unfold nuC; rw [if_neg (by omega), if_neg (by omega), if_neg (by omega), if_neg (by omega), if_neg (by omega), if_neg (by omega), if_pos (by omega), show 60 + k - 60 = k by omega]
theorem nuC_mi : nuC ht wm se cd sl od ow lo mi sd 132 = mi.toInt := rfl
theorem nuC_sd : nuC ht wm se cd sl od ow lo mi sd 133 = sd.toInt := rfl
theorem nuC_lo : nuC ht wm se cd sl od ow lo mi sd 134 = lo.toInt := rfl
theorem nuC_uht {b : Nat} {x : Int32} (h : b < 10) : nuC (upd ht b x) wm se cd sl od ow lo mi sd = uz (nuC ht wm se cd sl od ow lo mi sd) b x.toInt := by
  funext i
  unfold uz
  by_cases e : i = b
  · subst e; rw [if_pos rfl, nuC_ht h, upd, if_pos rfl]
  · rw [if_neg e]; unfold nuC
    by_cases c : i < 10
    · rw [if_pos c, if_pos c, upd, if_neg e]
    · rw [if_neg c, if_neg c]
theorem nuC_uwm {p : Nat} {x : Int32} (h : p < 10) : nuC ht (upd wm p x) se cd sl od ow lo mi sd = uz (nuC ht wm se cd sl od ow lo mi sd) (10 + p) x.toInt := by
  funext i
  unfold uz
  by_cases e : i = 10 + p
  · subst e; rw [if_pos rfl, nuC_wm h, upd, if_pos rfl]
  · rw [if_neg e]; unfold nuC
    by_cases c : i < 10
    · rw [if_pos c, if_pos c]
    · rw [if_neg c, if_neg c]
      by_cases d : i < 20
      · rw [if_pos d, if_pos d, upd, if_neg (by omega)]
      · rw [if_neg d, if_neg d]
theorem nuC_use {p : Nat} {x : Int32} (h : p < 10) : nuC ht wm (upd se p x) cd sl od ow lo mi sd = uz (nuC ht wm se cd sl od ow lo mi sd) (20 + p) x.toInt := by
  funext i
  unfold uz
  by_cases e : i = 20 + p
  · subst e; rw [if_pos rfl, nuC_se h, upd, if_pos rfl]
  · rw [if_neg e]; unfold nuC
    by_cases d : 20 ≤ i ∧ i < 30
    · simp only [show ¬ i < 10 by omega, show ¬ i < 20 by omega, d.2, if_true, if_false]; rw [upd, if_neg (by omega)]
    · by_cases c : i < 20
      · simp only [c, if_true]
      · simp only [c, show ¬ i < 30 by omega, if_false]
theorem nuC_ucd {p : Nat} {x : Int32} (h : p < 10) : nuC ht wm se (upd cd p x) sl od ow lo mi sd = uz (nuC ht wm se cd sl od ow lo mi sd) (30 + p) x.toInt := by
  funext i
  unfold uz
  by_cases e : i = 30 + p
  · subst e; rw [if_pos rfl, nuC_cd h, upd, if_pos rfl]
  · rw [if_neg e]; unfold nuC
    by_cases d : 30 ≤ i ∧ i < 40
    · simp only [show ¬ i < 10 by omega, show ¬ i < 20 by omega, show ¬ i < 30 by omega, d.2, if_true, if_false]; rw [upd, if_neg (by omega)]
    · by_cases c : i < 30
      · simp only [c, if_true]
      · simp only [c, show ¬ i < 40 by omega, if_false]
theorem nuC_usl {p : Nat} {x : Int32} (h : p < 10) : nuC ht wm se cd (upd sl p x) od ow lo mi sd = uz (nuC ht wm se cd sl od ow lo mi sd) (40 + p) x.toInt := by
  funext i
  unfold uz
  by_cases e : i = 40 + p
  · subst e; rw [if_pos rfl, nuC_sl h, upd, if_pos rfl]
  · rw [if_neg e]; unfold nuC
    by_cases d : 40 ≤ i ∧ i < 50
    · simp only [show ¬ i < 10 by omega, show ¬ i < 20 by omega, show ¬ i < 30 by omega, show ¬ i < 40 by omega, d.2, if_true, if_false]; rw [upd, if_neg (by omega)]
    · by_cases c : i < 40
      · simp only [c, if_true]
      · simp only [c, show ¬ i < 50 by omega, if_false]
theorem nuC_uod {p : Nat} {x : Int32} (h : p < 10) : nuC ht wm se cd sl (upd od p x) ow lo mi sd = uz (nuC ht wm se cd sl od ow lo mi sd) (50 + p) x.toInt := by
  funext i
  unfold uz
  by_cases e : i = 50 + p
  · subst e; rw [if_pos rfl, nuC_od h, upd, if_pos rfl]
  · rw [if_neg e]; unfold nuC
    by_cases d : 50 ≤ i ∧ i < 60
    · simp only [show ¬ i < 10 by omega, show ¬ i < 20 by omega, show ¬ i < 30 by omega, show ¬ i < 40 by omega, show ¬ i < 50 by omega, d.2, if_true, if_false]; rw [upd, if_neg (by omega)]
    · by_cases c : i < 50
      · simp only [c, if_true]
      · simp only [c, show ¬ i < 60 by omega, if_false]
theorem nuC_uow {k : Nat} {x : Int32} (h : k < 72) : nuC ht wm se cd sl od (upd ow k x) lo mi sd = uz (nuC ht wm se cd sl od ow lo mi sd) (60 + k) x.toInt := by
  funext i
  unfold uz
  by_cases e : i = 60 + k
  · subst e; rw [if_pos rfl, nuC_ow h, upd, if_pos rfl]
  · rw [if_neg e]; unfold nuC
    by_cases d : 60 ≤ i ∧ i < 132
    · simp only [show ¬ i < 10 by omega, show ¬ i < 20 by omega, show ¬ i < 30 by omega, show ¬ i < 40 by omega, show ¬ i < 50 by omega, show ¬ i < 60 by omega, d.2, if_true, if_false]; rw [upd, if_neg (by omega)]
    · by_cases c : i < 60
      · simp only [c, if_true]
      · simp only [c, show ¬ i < 132 by omega, if_false]
theorem nuC_ulo {x : Int32} : nuC ht wm se cd sl od ow x mi sd = uz (nuC ht wm se cd sl od ow lo mi sd) 134 x.toInt := by
  funext i
  unfold uz
  by_cases e : i = 134
  · subst e; rw [if_pos rfl]; rfl
  · rw [if_neg e]; unfold nuC; simp only [e, if_false]
theorem nuC_umi {x : Int32} : nuC ht wm se cd sl od ow lo x sd = uz (nuC ht wm se cd sl od ow lo mi sd) 132 x.toInt := by
  funext i
  unfold uz
  by_cases e : i = 132
  · subst e; rw [if_pos rfl]; rfl
  · rw [if_neg e]; unfold nuC; simp only [e, if_false]
theorem nuC_usd {x : Int32} : nuC ht wm se cd sl od ow lo mi x = uz (nuC ht wm se cd sl od ow lo mi sd) 133 x.toInt := by
  funext i
  unfold uz
  by_cases e : i = 133
  · subst e; rw [if_pos rfl]; rfl
  · rw [if_neg e]; unfold nuC; simp only [e, if_false]
end NU
/-- the places that tell of a town of ns stones and np persons -/
def rl (ns np i : Nat) : Prop := i < ns ∨ (10 ≤ i ∧ i < 10 + np) ∨ (20 ≤ i ∧ i < 20 + np) ∨ (30 ≤ i ∧ i < 30 + np) ∨ (40 ≤ i ∧ i < 40 + np) ∨ (50 ≤ i ∧ i < 50 + np) ∨ (∃ p b, p < np ∧ b < ns ∧ i = 60 + (9 * p + b)) ∨ i = 132 ∨ i = 133 ∨ i = 134
def agr (ns np : Nat) (f v : Nat → Int) : Prop := ∀ i, rl ns np i → f i = v i
theorem agr.uz {ns np k : Nat} {f v : Nat → Int} {x y : Int} (h : agr ns np f v) (e : x = y) : agr ns np (uz f k x) (uz v k y) := fun i hi => by
  subst e
  by_cases q : i = k
  · rw [uz_at q, uz_at q]
  · rw [uz_ne q, uz_ne q]; exact h i hi
theorem agr.b {ns np b : Nat} {f v : Nat → Int} (h : agr ns np f v) (hb : b < ns) : f b = v b := h b (Or.inl hb)
theorem agr.w {ns np p : Nat} {f v : Nat → Int} (h : agr ns np f v) (hp : p < np) : f (10 + p) = v (10 + p) := h _ (Or.inr (Or.inl (by omega)))
theorem agr.s {ns np p : Nat} {f v : Nat → Int} (h : agr ns np f v) (hp : p < np) : f (20 + p) = v (20 + p) := h _ (Or.inr (Or.inr (Or.inl (by omega))))
theorem agr.c {ns np p : Nat} {f v : Nat → Int} (h : agr ns np f v) (hp : p < np) : f (30 + p) = v (30 + p) := h _ (Or.inr (Or.inr (Or.inr (Or.inl (by omega)))))
theorem agr.l {ns np p : Nat} {f v : Nat → Int} (h : agr ns np f v) (hp : p < np) : f (40 + p) = v (40 + p) := h _ (Or.inr (Or.inr (Or.inr (Or.inr (Or.inl (by omega))))))
theorem agr.d {ns np p : Nat} {f v : Nat → Int} (h : agr ns np f v) (hp : p < np) : f (50 + p) = v (50 + p) := h _ (Or.inr (Or.inr (Or.inr (Or.inr (Or.inr (Or.inl (by omega)))))))
theorem agr.o {ns np p b : Nat} {f v : Nat → Int} (h : agr ns np f v) (hp : p < np) (hb : b < ns) : f (60 + (9 * p + b)) = v (60 + (9 * p + b)) := h _ (Or.inr (Or.inr (Or.inr (Or.inr (Or.inr (Or.inr (Or.inl ⟨p, b, hp, hb, rfl⟩)))))))
theorem agr.m {ns np : Nat} {f v : Nat → Int} (h : agr ns np f v) : f 132 = v 132 := h _ (Or.inr (Or.inr (Or.inr (Or.inr (Or.inr (Or.inr (Or.inr (Or.inl rfl))))))))
theorem agr.e {ns np : Nat} {f v : Nat → Int} (h : agr ns np f v) : f 133 = v 133 := h _ (Or.inr (Or.inr (Or.inr (Or.inr (Or.inr (Or.inr (Or.inr (Or.inr (Or.inl rfl)))))))))
theorem agr.x {ns np : Nat} {f v : Nat → Int} (h : agr ns np f v) : f 134 = v 134 := h _ (Or.inr (Or.inr (Or.inr (Or.inr (Or.inr (Or.inr (Or.inr (Or.inr (Or.inr rfl)))))))))
/-- behind the last stone, behind the last person -/
def zro (ns np : Nat) (ht wm se cd : Nat → Int32) : Prop := (∀ b, ns ≤ b → b < 9 → ht b = 0) ∧ ∀ p, np ≤ p → p < 8 → wm p = 0 ∧ (0 < ns → se p = -1) ∧ cd p = 0
/-- the class's night tells the row v -/
def CN (ns np : Nat) (v : Nat → Int) (ht wm se cd sl od ow : Nat → Int32) (lo mi sd : Int32) : Prop := agr ns np (nuC ht wm se cd sl od ow lo mi sd) v ∧ zro ns np ht wm se cd
/-- the class's town tells T -/
def CT (T : Nat → Nat → Int) (ns np : Nat) (n0 p0 fu fd fi : Int32) (sz pt kd nd : Nat → Int32) : Prop :=
  n0 = nI ns ∧ p0 = nI np ∧ (∀ b, b < ns → (sz b).toInt = T 0 b ∧ (pt b).toInt = T 1 b) ∧ (∀ p, p < np → (kd p).toInt = T 2 p ∧ (nd p).toInt = T 3 p) ∧ fu.toInt = T 4 0 ∧ fd.toInt = T 4 1 ∧ fi.toInt = T 4 2
def NB (k : Nat → Int) (M : Int) : Prop := (∀ p, k p ≤ 3000000) ∧ M ≤ 1500000
section CNS
variable {T : Nat → Nat → Int} {ns np : Nat} {v : Nat → Int} {k : Nat → Int} {M : Int} {ht wm se cd sl od ow : Nat → Int32} {lo mi sd : Int32} {n0 p0 fu fd fi : Int32} {sz pt kd nd : Nat → Int32}
theorem upd_at (f : Nat → Int32) (i : Nat) (x : Int32) : upd f i x i = x := if_pos rfl
theorem upd_ne {f : Nat → Int32} {i j : Nat} {x : Int32} (h : j ≠ i) : upd f i x j = f j := if_neg h
theorem CN_share (hT : TOK T ns np) (hC : CT T ns np n0 p0 fu fd fi sz pt kd nd) (hN : CN ns np v ht wm se cd sl od ow lo mi sd) (hO : NOK T ns np k M v) {p b : Nat} (hp : p < np) (hb : b < ns) :
    CN ns np (zSit T p b v) (upd ht b (ht b + flowI (kd p) (sz b) (wm p) (ht b))) (upd wm p (wm p - flowI (kd p) (sz b) (wm p) (ht b))) se cd sl od ow lo mi sd := by
  have t1 := hT.1
  have t2 := hT.2.1
  have a1 := hO.1 b hb
  have a2 := (hO.2.1 p hp).1
  have a3 := hT.2.2.1 b hb
  obtain ⟨g, z⟩ := hN
  have eh : (ht b).toInt = v b := by rw [← g.b hb, nuC_ht (by omega)]
  have ew : (wm p).toInt = v (10 + p) := by rw [← g.w hp, nuC_wm (by omega)]
  have ef : (flowI (kd p) (sz b) (wm p) (ht b)).toInt = flowZ (T 2 p) (T 0 b) (v (10 + p)) (v b) := flowI_Z (hC.2.2.2.1 p hp).1 (hC.2.2.1 b hb).1 ew eh a2.1 a2.2 a1.1 a1.2 a3.2.1
  have fb := flowZ_bd (k := T 2 p) a2.1 a2.2 a1.1 a1.2 a3.2.1
  refine ⟨?_, fun c h1 h2 => ?_, fun q h1 h2 => ?_⟩
  · rw [nuC_uwm (by omega), nuC_uht (by omega)]
    unfold zSit
    refine (g.uz ?_).uz ?_
    · exact i_add eh ef (by omega) (by omega)
    · exact i_sub ew ef (by omega) (by omega)
  · rw [upd_ne (by omega)]; exact z.1 c h1 h2
  · rw [upd_ne (by omega)]; exact z.2 q h1 h2
theorem CN_own (hT : TOK T ns np) (hN : CN ns np v ht wm se cd sl od ow lo mi sd) (hO : NOK T ns np k M v) (hB : NB k M) {p b : Nat} (hp : p < np) (hb : b < ns) :
    CN ns np (zOwn p b v) ht wm se cd (if 0 < ow (9 * p + b) then sl else upd sl p (sl p + 1)) od (if 0 < ow (9 * p + b) then upd ow (9 * p + b) (ow (9 * p + b) - 1) else ow) lo mi sd := by
  have t1 := hT.1
  have t2 := hT.2.1
  have a1 := hO.2.2.2.1 p b hp hb
  have a2 := (hO.2.1 p hp).2.2.2.1
  have a3 := hB.1 p
  obtain ⟨g, z⟩ := hN
  have eo : (ow (9 * p + b)).toInt = v (60 + (9 * p + b)) := by rw [← g.o hp hb, nuC_ow (by omega)]
  have es : (sl p).toInt = v (40 + p) := by rw [← g.l hp, nuC_sl (by omega)]
  have hc : (0 : Int32) < ow (9 * p + b) ↔ 0 < v (60 + (9 * p + b)) := i_lt rfl eo
  refine ⟨?_, z⟩
  unfold zOwn
  by_cases h : 0 < v (60 + (9 * p + b))
  · rw [if_pos h, if_pos (hc.mpr h), if_pos (hc.mpr h), nuC_uow (by omega)]
    exact g.uz (i_sub eo i32_1 (by omega) (by omega))
  · rw [if_neg h, if_neg (fun q => h (hc.mp q)), if_neg (fun q => h (hc.mp q)), nuC_usl (by omega)]
    exact g.uz (i_add es i32_1 (by omega) (by omega))
theorem CN_freeze (hT : TOK T ns np) (hN : CN ns np v ht wm se cd sl od ow lo mi sd) (hO : NOK T ns np k M v) {p : Nat} (hp : p < np) {fr : Int32} {F : Int} (hF : fr.toInt = F) (h0 : 0 ≤ F) :
    CN ns np (zFr p F v) ht (upd wm p (wm p - minI fr (wm p))) se cd sl od ow (lo + minI fr (wm p)) mi sd := by
  have t1 := hT.1
  have t2 := hT.2.1
  have a2 := (hO.2.1 p hp).1
  have sm : ∀ n, n ≤ ns → ∀ m, m ≤ np → 0 ≤ zSum v 0 ns ∧ 0 ≤ zSum v 10 np := fun _ _ _ _ => ⟨zSum_nn (fun i hi => by rw [Nat.zero_add]; exact (hO.1 i hi).1), zSum_nn (fun i hi => (hO.2.1 i hi).1.1)⟩
  have s2 := sm 0 (by omega) 0 (by omega)
  have a8 := hO.2.2.2.2.2.2
  obtain ⟨g, z⟩ := hN
  have ew : (wm p).toInt = v (10 + p) := by rw [← g.w hp, nuC_wm (by omega)]
  have el : lo.toInt = v 134 := by rw [← g.x, nuC_lo]
  have em : (minI fr (wm p)).toInt = minZ F (v (10 + p)) := minI_Z hF ew
  have mb := minZ_bd h0 a2.1
  refine ⟨?_, z.1, fun q h1 h2 => ?_⟩
  · rw [nuC_ulo (lo := lo), nuC_uwm (by omega)]
    unfold zFr
    refine (g.uz ?_).uz ?_
    · exact i_sub ew em (by omega) (by omega)
    · exact i_add el em (by omega) (by omega)
  · rw [upd_ne (by omega)]; exact z.2 q h1 h2
theorem CN_coldY (hT : TOK T ns np) (hN : CN ns np v ht wm se cd sl od ow lo mi sd) (hO : NOK T ns np k M v) (hB : NB k M) {p : Nat} (hp : p < np) (hc : v (10 + p) < T 3 p) :
    CN ns np (zCold T p v) ht wm se (upd cd p (cd p + 1)) sl od ow lo mi sd := by
  have t1 := hT.1
  have t2 := hT.2.1
  have a2 := (hO.2.1 p hp).2.2.1
  have a3 := hB.1 p
  obtain ⟨g, z⟩ := hN
  have es : (cd p).toInt = v (30 + p) := by rw [← g.c hp, nuC_cd (by omega)]
  refine ⟨?_, z.1, fun q h1 h2 => ?_⟩
  · unfold zCold
    rw [if_pos hc, nuC_ucd (by omega)]
    exact g.uz (i_add es i32_1 (by omega) (by omega))
  · rw [upd_ne (by omega)]; exact z.2 q h1 h2
theorem CN_fine (hT : TOK T ns np) (hN : CN ns np v ht wm se cd sl od ow lo mi sd) (hO : NOK T ns np k M v) (hB : NB k M) {p : Nat} (hp : p < np) (hf : fi.toInt = T 4 2) :
    CN ns np (zFine T p v) ht wm se cd sl (upd od p (od p + fi)) ow lo mi sd := by
  have t1 := hT.1
  have t2 := hT.2.1
  have t9 := hT.2.2.2.2.2.2.2.2
  have a2 := (hO.2.1 p hp).2.2.2.2
  have a3 := hB.1 p
  obtain ⟨g, z⟩ := hN
  have es : (od p).toInt = v (50 + p) := by rw [← g.d hp, nuC_od (by omega)]
  refine ⟨?_, z⟩
  unfold zFine
  rw [nuC_uod (by omega)]
  exact g.uz (i_add es hf (by omega) (by omega))
theorem CN_loss (hT : TOK T ns np) (hC : CT T ns np n0 p0 fu fd fi sz pt kd nd) (hN : CN ns np v ht wm se cd sl od ow lo mi sd) (hO : NOK T ns np k M v) {b : Nat} (hb : b < ns) :
    CN ns np (zLoss T b v) (upd ht b (ht b - lossI (pt b) (ht b))) wm se cd sl od ow (lo + lossI (pt b) (ht b)) mi sd := by
  have t1 := hT.1
  have t2 := hT.2.1
  have a1 := hO.1 b hb
  have a3 := hT.2.2.1 b hb
  have s2 : 0 ≤ zSum v 0 ns ∧ 0 ≤ zSum v 10 np := ⟨zSum_nn (fun i hi => by rw [Nat.zero_add]; exact (hO.1 i hi).1), zSum_nn (fun i hi => (hO.2.1 i hi).1.1)⟩
  have a8 := hO.2.2.2.2.2.2
  obtain ⟨g, z⟩ := hN
  have eh : (ht b).toInt = v b := by rw [← g.b hb, nuC_ht (by omega)]
  have el : lo.toInt = v 134 := by rw [← g.x, nuC_lo]
  have ef : (lossI (pt b) (ht b)).toInt = lossZ (T 1 b) (v b) := lossI_Z (hC.2.2.1 b hb).2 eh a3.2.2.1 a1.1
  have fb := lossZ_bd a3.2.2.1 a1.1
  refine ⟨?_, fun c h1 h2 => ?_, z.2⟩
  · rw [nuC_ulo (lo := lo), nuC_uht (by omega)]
    unfold zLoss
    refine (g.uz ?_).uz ?_
    · exact i_sub eh ef (by omega) (by omega)
    · exact i_add el ef (by omega) (by omega)
  · rw [upd_ne (by omega)]; exact z.1 c h1 h2
end CNS
