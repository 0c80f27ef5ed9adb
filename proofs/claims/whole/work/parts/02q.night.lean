/-! a night as a row of whole numbers: heats at 0, warmths at 10, seats at 20, cold at 30, stolen at 40, owed at 50, owned at 60, minute 132, seed 133, lost 134 -/
def uz (v : Nat → Int) (i : Nat) (x : Int) : Nat → Int := fun j => if j = i then x else v j
theorem uz_eq (v : Nat → Int) (i : Nat) (x : Int) : uz v i x i = x := if_pos rfl
theorem uz_at {v : Nat → Int} {i j : Nat} {x : Int} (h : j = i) : uz v i x j = x := if_pos h
theorem uz_ne {v : Nat → Int} {i j : Nat} {x : Int} (h : j ≠ i) : uz v i x j = v j := if_neg h
def zSit (T : Nat → Nat → Int) (p b : Nat) (v : Nat → Int) : Nat → Int :=
  uz (uz v b (v b + flowZ (T 2 p) (T 0 b) (v (10 + p)) (v b))) (10 + p) (v (10 + p) - flowZ (T 2 p) (T 0 b) (v (10 + p)) (v b))
def zOwn (p b : Nat) (v : Nat → Int) : Nat → Int := if 0 < v (60 + (9 * p + b)) then uz v (60 + (9 * p + b)) (v (60 + (9 * p + b)) - 1) else uz v (40 + p) (v (40 + p) + 1)
def zFr (p : Nat) (F : Int) (v : Nat → Int) : Nat → Int := uz (uz v (10 + p) (v (10 + p) - minZ F (v (10 + p)))) 134 (v 134 + minZ F (v (10 + p)))
def zFrost (T : Nat → Nat → Int) (p : Nat) (s : Bool) (v : Nat → Int) : Nat → Int := zFr p (frostZ (T 2 p) (T 4 0) (T 4 1) s) v
def zCold (T : Nat → Nat → Int) (p : Nat) (v : Nat → Int) : Nat → Int := if v (10 + p) < T 3 p then uz v (30 + p) (v (30 + p) + 1) else v
def zFine (T : Nat → Nat → Int) (p : Nat) (v : Nat → Int) : Nat → Int := uz v (50 + p) (v (50 + p) + T 4 2)
def zPerson (T : Nat → Nat → Int) (p : Nat) (v : Nat → Int) : Nat → Int :=
  if 0 ≤ v (20 + p) then zCold T p (zFrost T p true (zOwn p (v (20 + p)).toNat (zSit T p (v (20 + p)).toNat v))) else zCold T p (zFrost T p false (zFine T p v))
def zPersons (T : Nat → Nat → Int) (v : Nat → Int) : Nat → Nat → Int
  | 0 => v
  | p + 1 => zPerson T p (zPersons T v p)
def zEmpty (v : Nat → Int) (b : Nat) : Nat → Prop
  | 0 => True
  | p + 1 => zEmpty v b p ∧ v (20 + p) ≠ (b : Int)
theorem zEmpty_iff {v : Nat → Int} {b : Nat} : ∀ {n : Nat}, zEmpty v b n ↔ ∀ p, p < n → v (20 + p) ≠ (b : Int)
  | 0 => ⟨fun _ p h => absurd h (Nat.not_lt_zero p), fun _ => trivial⟩
  | n + 1 => by
    unfold zEmpty
    rw [zEmpty_iff]
    refine ⟨fun h p hp => ?_, fun h => ⟨fun p hp => h p (by omega), h n (by omega)⟩⟩
    rcases Nat.lt_or_ge p n with q | q
    · exact h.1 p q
    · have e : p = n := by omega
      subst e
      exact h.2
def zLoss (T : Nat → Nat → Int) (b : Nat) (v : Nat → Int) : Nat → Int := uz (uz v b (v b - lossZ (T 1 b) (v b))) 134 (v 134 + lossZ (T 1 b) (v b))
noncomputable def zCool (T : Nat → Nat → Int) (np b : Nat) (v : Nat → Int) : Nat → Int := @ite _ (zEmpty v b np) (Classical.propDecidable _) (zLoss T b v) v
noncomputable def zCools (T : Nat → Nat → Int) (np : Nat) (v : Nat → Int) : Nat → Nat → Int
  | 0 => v
  | b + 1 => zCool T np b (zCools T np v b)
noncomputable def zPass (T : Nat → Nat → Int) (ns np : Nat) (v : Nat → Int) : Nat → Int := zCools T np (zPersons T (uz v 132 (v 132 + 1)) np) ns
/-- who is cold now, a bit each -/
def zCs (T : Nat → Nat → Int) (v : Nat → Int) : Nat → Nat
  | 0 => 0
  | p + 1 => zCs T v p + if v (10 + p) < T 3 p then 2 ^ p else 0
theorem zCool_yes {T : Nat → Nat → Int} {np b : Nat} {v : Nat → Int} (h : zEmpty v b np) : zCool T np b v = zLoss T b v := if_pos h
theorem zCool_no {T : Nat → Nat → Int} {np b : Nat} {v : Nat → Int} (h : ¬ zEmpty v b np) : zCool T np b v = v := if_neg h
/-- a told town's numbers -/
def TOK (T : Nat → Nat → Int) (ns np : Nat) : Prop := ns ≤ 9 ∧ np ≤ 8 ∧ (∀ b, b < ns → 1 ≤ T 0 b ∧ T 0 b ≤ 9999 ∧ 2 ≤ T 1 b ∧ T 1 b ≤ 999) ∧ (∀ p, p < np → 0 ≤ T 2 p ∧ T 2 p ≤ 4 ∧ 0 ≤ T 3 p ∧ T 3 p ≤ 9999) ∧ 0 ≤ T 4 0 ∧ T 4 0 ≤ 99 ∧ 0 ≤ T 4 1 ∧ T 4 1 ≤ 99 ∧ 0 ≤ T 4 2 ∧ T 4 2 ≤ 99
def zSum (v : Nat → Int) (o : Nat) : Nat → Int
  | 0 => 0
  | n + 1 => zSum v o n + v (o + n)
/-- a night's numbers: k p bounds what person p has counted, M the minutes -/
def NOK (T : Nat → Nat → Int) (ns np : Nat) (k : Nat → Int) (M : Int) (v : Nat → Int) : Prop :=
  (∀ b, b < ns → 0 ≤ v b ∧ v b ≤ T 0 b) ∧
  (∀ p, p < np → (0 ≤ v (10 + p) ∧ v (10 + p) ≤ 9999) ∧ (-1 ≤ v (20 + p) ∧ v (20 + p) < ns) ∧ (0 ≤ v (30 + p) ∧ v (30 + p) ≤ k p) ∧ (0 ≤ v (40 + p) ∧ v (40 + p) ≤ k p) ∧ (0 ≤ v (50 + p) ∧ v (50 + p) ≤ 99 * k p)) ∧
  (∀ p q, p < np → q < np → p ≠ q → v (20 + p) = v (20 + q) → v (20 + p) = -1) ∧
  (∀ p b, p < np → b < ns → 0 ≤ v (60 + (9 * p + b)) ∧ v (60 + (9 * p + b)) ≤ 99999) ∧
  (0 ≤ v 132 ∧ v 132 ≤ M) ∧ (0 ≤ v 133 ∧ v 133 < 2147483648) ∧ 0 ≤ v 134 ∧ zSum v 0 ns + zSum v 10 np + v 134 ≤ 169983
theorem zSum_cong {v u : Nat → Int} {o : Nat} : ∀ {n : Nat}, (∀ i, i < n → v (o + i) = u (o + i)) → zSum v o n = zSum u o n
  | 0, _ => rfl
  | n + 1, h => by rw [zSum, zSum, zSum_cong (fun i hi => h i (by omega)), h n (by omega)]
theorem zSum_uz {v : Nat → Int} {o i : Nat} {x : Int} : ∀ {n : Nat}, i < n → zSum (uz v (o + i) x) o n = zSum v o n - v (o + i) + x
  | 0, h => absurd h (Nat.not_lt_zero _)
  | n + 1, h => by
    rw [zSum, zSum]
    rcases Nat.lt_or_ge i n with q | q
    · rw [zSum_uz q, uz_ne (by omega)]; omega
    · have e : i = n := by omega
      subst e
      rw [uz_eq, zSum_cong (v := uz v (o + i) x) (u := v) (fun j hj => uz_ne (by omega))]; omega
theorem zSum_out {v : Nat → Int} {o n i : Nat} {x : Int} (h : i < o ∨ o + n ≤ i) : zSum (uz v i x) o n = zSum v o n := zSum_cong (fun j hj => uz_ne (by omega))
theorem zSum_nn {v : Nat → Int} {o : Nat} : ∀ {n : Nat}, (∀ i, i < n → 0 ≤ v (o + i)) → 0 ≤ zSum v o n
  | 0, _ => Int.le_refl 0
  | n + 1, h => by
    rw [zSum]
    have h1 := zSum_nn (n := n) (fun i hi => h i (by omega))
    have h2 := h n (by omega)
    omega
theorem minZ_bd {x y : Int} (hx : 0 ≤ x) (hy : 0 ≤ y) : 0 ≤ minZ x y ∧ minZ x y ≤ y ∧ minZ x y ≤ x := by
  unfold minZ; split <;> omega
theorem frostZ_bd {k fu fd : Int} {s : Bool} (h1 : 0 ≤ fu) (h2 : fu ≤ 99) (h3 : 0 ≤ fd) (h4 : fd ≤ 99) : 0 ≤ frostZ k fu fd s ∧ frostZ k fu fd s ≤ 99 := by
  unfold frostZ
  split
  · omega
  · split <;> omega
/-! each step keeps the numbers in bounds -/
theorem zSit_ok {T : Nat → Nat → Int} {ns np : Nat} {k : Nat → Int} {M : Int} {v : Nat → Int} (hT : TOK T ns np) (h : NOK T ns np k M v) {p b : Nat} (hp : p < np) (hb : b < ns) : NOK T ns np k M (zSit T p b v) := by
  obtain ⟨t1, t2, t3, -⟩ := hT
  obtain ⟨h1, h2, h3, h4, h5, h6, h7, h8⟩ := h
  have a1 := h1 b hb
  have a2 := t3 b hb
  have a3 := (h2 p hp).1
  have fb := flowZ_bd (k := T 2 p) a3.1 a3.2 a1.1 a1.2 a2.2.1
  unfold zSit
  generalize flowZ (T 2 p) (T 0 b) (v (10 + p)) (v b) = f at fb ⊢
  have sm : ∀ j, j ≠ b → j ≠ 10 + p → uz (uz v b (v b + f)) (10 + p) (v (10 + p) - f) j = v j := fun j x y => by rw [uz_ne y, uz_ne x]
  have eb : uz (uz v b (v b + f)) (10 + p) (v (10 + p) - f) b = v b + f := by rw [uz_ne (by omega), uz_eq]
  have ep : uz (uz v b (v b + f)) (10 + p) (v (10 + p) - f) (10 + p) = v (10 + p) - f := uz_eq _ _ _
  refine ⟨fun c hc => ?_, fun q hq => ?_, fun q r hq hr hn he => ?_, fun q c hq hc => ?_, ?_, ?_, ?_, ?_⟩
  · by_cases e : c = b
    · subst e; rw [eb]; omega
    · rw [sm c e (by omega)]; exact h1 c hc
  · rw [sm (20 + q) (by omega) (by omega), sm (30 + q) (by omega) (by omega), sm (40 + q) (by omega) (by omega), sm (50 + q) (by omega) (by omega)]
    refine ⟨?_, (h2 q hq).2⟩
    by_cases e : q = p
    · subst e; rw [ep]; omega
    · rw [sm (10 + q) (by omega) (by omega)]; exact (h2 q hq).1
  · rw [sm (20 + q) (by omega) (by omega), sm (20 + r) (by omega) (by omega)] at he
    rw [sm (20 + q) (by omega) (by omega)]
    exact h3 q r hq hr hn he
  · rw [sm _ (by omega) (by omega)]; exact h4 q c hq hc
  · rw [sm _ (by omega) (by omega)]; exact h5
  · rw [sm _ (by omega) (by omega)]; exact h6
  · rw [sm _ (by omega) (by omega)]; exact h7
  · have s1 : zSum (uz (uz v b (v b + f)) (10 + p) (v (10 + p) - f)) 0 ns = zSum v 0 ns - v b + (v b + f) := by
      rw [zSum_out (by omega)]
      have e := zSum_uz (v := v) (o := 0) (i := b) (x := v b + f) hb
      simpa using e
    have s2 : zSum (uz (uz v b (v b + f)) (10 + p) (v (10 + p) - f)) 10 np = zSum v 10 np - v (10 + p) + (v (10 + p) - f) := by rw [zSum_uz hp, zSum_out (by omega), uz_ne (by omega)]
    rw [sm 134 (by omega) (by omega), s1, s2]
    omega
theorem zOwn_ok {T : Nat → Nat → Int} {ns np : Nat} {k : Nat → Int} {M : Int} {v : Nat → Int} (hT : TOK T ns np) (h : NOK T ns np k M v) {p b : Nat} (hp : p < np) (hb : b < ns) : NOK T ns np (fun q => if q = p then k p + 1 else k q) M (zOwn p b v) := by
  obtain ⟨t1, t2, -⟩ := hT
  obtain ⟨h1, h2, h3, h4, h5, h6, h7, h8⟩ := h
  unfold zOwn
  have kk : ∀ q, k q ≤ (fun q => if q = p then k p + 1 else k q) q := fun q => by
    dsimp only; split
    · rename_i e; subst e; omega
    · omega
  split
  · refine ⟨fun c hc => ?_, fun q hq => ?_, fun q r hq hr hn he => ?_, fun q c hq hc => ?_, ?_, ?_, ?_, ?_⟩
    · rw [uz_ne (by omega)]; exact h1 c hc
    · rw [uz_ne (by omega), uz_ne (by omega), uz_ne (by omega), uz_ne (by omega), uz_ne (by omega)]
      have := h2 q hq
      have := kk q
      omega
    · rw [uz_ne (by omega), uz_ne (by omega)] at he
      rw [uz_ne (by omega)]
      exact h3 q r hq hr hn he
    · have a := h4 q c hq hc
      by_cases e : 60 + (9 * q + c) = 60 + (9 * p + b)
      · rw [uz_at e]; rw [e] at a; omega
      · rw [uz_ne e]; exact a
    · rw [uz_ne (by omega)]; exact h5
    · rw [uz_ne (by omega)]; exact h6
    · rw [uz_ne (by omega)]; exact h7
    · rw [uz_ne (by omega), zSum_out (by omega), zSum_out (by omega)]; exact h8
  · refine ⟨fun c hc => ?_, fun q hq => ?_, fun q r hq hr hn he => ?_, fun q c hq hc => ?_, ?_, ?_, ?_, ?_⟩
    · rw [uz_ne (by omega)]; exact h1 c hc
    · rw [uz_ne (i := 40 + p) (j := 10 + q) (by omega), uz_ne (i := 40 + p) (j := 20 + q) (by omega), uz_ne (i := 40 + p) (j := 30 + q) (by omega), uz_ne (i := 40 + p) (j := 50 + q) (by omega)]
      have a := h2 q hq
      have := kk q
      by_cases e : q = p
      · subst e
        rw [uz_eq]
        simp only [if_true] at this ⊢
        omega
      · rw [uz_ne (by omega)]
        omega
    · rw [uz_ne (by omega), uz_ne (by omega)] at he
      rw [uz_ne (by omega)]
      exact h3 q r hq hr hn he
    · rw [uz_ne (by omega)]; exact h4 q c hq hc
    · rw [uz_ne (by omega)]; exact h5
    · rw [uz_ne (by omega)]; exact h6
    · rw [uz_ne (by omega)]; exact h7
    · rw [uz_ne (by omega), zSum_out (by omega), zSum_out (by omega)]; exact h8
theorem zFrost_ok {T : Nat → Nat → Int} {ns np : Nat} {k : Nat → Int} {M : Int} {v : Nat → Int} (hT : TOK T ns np) (h : NOK T ns np k M v) {p : Nat} (s : Bool) (hp : p < np) : NOK T ns np k M (zFrost T p s v) := by
  obtain ⟨t1, t2, t3, t4, t5, t6, t7, t8, t9⟩ := hT
  obtain ⟨h1, h2, h3, h4, h5, h6, h7, h8⟩ := h
  have a3 := (h2 p hp).1
  have fz := frostZ_bd (k := T 2 p) (s := s) t5 t6 t7 t8
  have mb := minZ_bd fz.1 a3.1
  unfold zFrost zFr
  generalize minZ (frostZ (T 2 p) (T 4 0) (T 4 1) s) (v (10 + p)) = f at mb ⊢
  have sm : ∀ j, j ≠ 10 + p → j ≠ 134 → uz (uz v (10 + p) (v (10 + p) - f)) 134 (v 134 + f) j = v j := fun j x y => by rw [uz_ne y, uz_ne x]
  have ep : uz (uz v (10 + p) (v (10 + p) - f)) 134 (v 134 + f) (10 + p) = v (10 + p) - f := by rw [uz_ne (by omega), uz_eq]
  have eL : uz (uz v (10 + p) (v (10 + p) - f)) 134 (v 134 + f) 134 = v 134 + f := uz_eq _ _ _
  refine ⟨fun c hc => ?_, fun q hq => ?_, fun q r hq hr hn he => ?_, fun q c hq hc => ?_, ?_, ?_, ?_, ?_⟩
  · rw [sm c (by omega) (by omega)]; exact h1 c hc
  · rw [sm (20 + q) (by omega) (by omega), sm (30 + q) (by omega) (by omega), sm (40 + q) (by omega) (by omega), sm (50 + q) (by omega) (by omega)]
    refine ⟨?_, (h2 q hq).2⟩
    by_cases e : q = p
    · subst e; rw [ep]; omega
    · rw [sm (10 + q) (by omega) (by omega)]; exact (h2 q hq).1
  · rw [sm (20 + q) (by omega) (by omega), sm (20 + r) (by omega) (by omega)] at he
    rw [sm (20 + q) (by omega) (by omega)]
    exact h3 q r hq hr hn he
  · rw [sm _ (by omega) (by omega)]; exact h4 q c hq hc
  · rw [sm _ (by omega) (by omega)]; exact h5
  · rw [sm _ (by omega) (by omega)]; exact h6
  · rw [eL]; omega
  · have s1 : zSum (uz (uz v (10 + p) (v (10 + p) - f)) 134 (v 134 + f)) 0 ns = zSum v 0 ns := by rw [zSum_out (by omega), zSum_out (by omega)]
    have s2 : zSum (uz (uz v (10 + p) (v (10 + p) - f)) 134 (v 134 + f)) 10 np = zSum v 10 np - v (10 + p) + (v (10 + p) - f) := by rw [zSum_out (by omega), zSum_uz hp]
    rw [eL, s1, s2]
    omega
theorem NOK_bump {T : Nat → Nat → Int} {ns np : Nat} {k k2 : Nat → Int} {M M2 : Int} {v : Nat → Int} (h : NOK T ns np k M v) (hk : ∀ q, k q ≤ k2 q) (hM : M ≤ M2) : NOK T ns np k2 M2 v := by
  obtain ⟨h1, h2, h3, h4, h5, h6, h7, h8⟩ := h
  refine ⟨h1, fun q hq => ?_, h3, h4, by omega, h6, h7, h8⟩
  have a := h2 q hq
  have b := hk q
  omega
def kUp (k : Nat → Int) (p : Nat) : Nat → Int := fun q => if q = p then k p + 1 else k q
theorem kUp_le (k : Nat → Int) (p q : Nat) : k q ≤ kUp k p q := by
  unfold kUp
  by_cases e : q = p
  · rw [if_pos e, e]; omega
  · rw [if_neg e]; omega
theorem kUp_eq (k : Nat → Int) (p : Nat) : kUp k p p = k p + 1 := if_pos rfl
theorem zCold_ok {T : Nat → Nat → Int} {ns np : Nat} {k : Nat → Int} {M : Int} {v : Nat → Int} (hT : TOK T ns np) (h : NOK T ns np k M v) {p : Nat} (hp : p < np) : NOK T ns np (kUp k p) M (zCold T p v) := by
  obtain ⟨t1, t2, -⟩ := hT
  unfold zCold
  split
  · obtain ⟨h1, h2, h3, h4, h5, h6, h7, h8⟩ := h
    refine ⟨fun c hc => ?_, fun q hq => ?_, fun q r hq hr hn he => ?_, fun q c hq hc => ?_, ?_, ?_, ?_, ?_⟩
    · rw [uz_ne (by omega)]; exact h1 c hc
    · rw [uz_ne (i := 30 + p) (j := 10 + q) (by omega), uz_ne (i := 30 + p) (j := 20 + q) (by omega), uz_ne (i := 30 + p) (j := 40 + q) (by omega), uz_ne (i := 30 + p) (j := 50 + q) (by omega)]
      have a := h2 q hq
      have b := kUp_le k p q
      by_cases e : q = p
      · subst e
        rw [uz_eq]
        rw [kUp_eq] at b ⊢
        omega
      · rw [uz_ne (by omega)]
        omega
    · rw [uz_ne (by omega), uz_ne (by omega)] at he
      rw [uz_ne (by omega)]
      exact h3 q r hq hr hn he
    · rw [uz_ne (by omega)]; exact h4 q c hq hc
    · rw [uz_ne (by omega)]; exact h5
    · rw [uz_ne (by omega)]; exact h6
    · rw [uz_ne (by omega)]; exact h7
    · rw [uz_ne (by omega), zSum_out (by omega), zSum_out (by omega)]; exact h8
  · exact NOK_bump h (kUp_le k p) (Int.le_refl M)
theorem zFine_ok {T : Nat → Nat → Int} {ns np : Nat} {k : Nat → Int} {M : Int} {v : Nat → Int} (hT : TOK T ns np) (h : NOK T ns np k M v) {p : Nat} (hp : p < np) : NOK T ns np (kUp k p) M (zFine T p v) := by
  obtain ⟨t1, t2, t3, t4, t5, t6, t7, t8, t9, t10⟩ := hT
  unfold zFine
  obtain ⟨h1, h2, h3, h4, h5, h6, h7, h8⟩ := h
  refine ⟨fun c hc => ?_, fun q hq => ?_, fun q r hq hr hn he => ?_, fun q c hq hc => ?_, ?_, ?_, ?_, ?_⟩
  · rw [uz_ne (by omega)]; exact h1 c hc
  · rw [uz_ne (i := 50 + p) (j := 10 + q) (by omega), uz_ne (i := 50 + p) (j := 20 + q) (by omega), uz_ne (i := 50 + p) (j := 40 + q) (by omega), uz_ne (i := 50 + p) (j := 30 + q) (by omega)]
    have a := h2 q hq
    have b := kUp_le k p q
    by_cases e : q = p
    · subst e
      rw [uz_eq]
      rw [kUp_eq] at b ⊢
      omega
    · rw [uz_ne (by omega)]
      omega
  · rw [uz_ne (by omega), uz_ne (by omega)] at he
    rw [uz_ne (by omega)]
    exact h3 q r hq hr hn he
  · rw [uz_ne (by omega)]; exact h4 q c hq hc
  · rw [uz_ne (by omega)]; exact h5
  · rw [uz_ne (by omega)]; exact h6
  · rw [uz_ne (by omega)]; exact h7
  · rw [uz_ne (by omega), zSum_out (by omega), zSum_out (by omega)]; exact h8
theorem zPerson_ok {T : Nat → Nat → Int} {ns np : Nat} {k : Nat → Int} {M : Int} {v : Nat → Int} (hT : TOK T ns np) (h : NOK T ns np k M v) {p : Nat} (hp : p < np) : NOK T ns np (kUp (kUp k p) p) M (zPerson T p v) := by
  have a := (h.2.1 p hp).2.1
  unfold zPerson
  split
  · refine zCold_ok hT (zFrost_ok hT (zOwn_ok hT (zSit_ok hT h hp ?_) hp ?_) true hp) hp <;> omega
  · exact zCold_ok hT (zFrost_ok hT (zFine_ok hT h hp) false hp) hp
