/-! bits (from the kit's BITS) -/
def bt (x : Int32) (i : Nat) : Bool := x.toBitVec.getLsbD i
theorem b_ext {x y : Int32} (h : ∀ i, i < 32 → bt x i = bt y i) : x = y := Int32.toBitVec_inj.mp (BitVec.eq_of_getLsbD_eq (fun i hi => h i hi))
theorem b_or (x y : Int32) (i : Nat) : bt (x ||| y) i = (bt x i || bt y i) := by unfold bt; rw [Int32.toBitVec_or, BitVec.getLsbD_or]
theorem b_and (x y : Int32) (i : Nat) : bt (x &&& y) i = (bt x i && bt y i) := by unfold bt; rw [Int32.toBitVec_and, BitVec.getLsbD_and]
theorem b_big {x : Int32} {i : Nat} (h : 32 ≤ i) : bt x i = false := BitVec.getLsbD_of_ge _ _ h
theorem b_0 (i : Nat) : bt 0 i = false := BitVec.getLsbD_zero
theorem b_1 (i : Nat) : bt 1 i = decide (i = 0) := by
  rcases Nat.lt_or_ge i 32 with h | h
  · exact (by decide +kernel : ∀ i, i < 32 → bt 1 i = decide (i = 0)) i h
  · rw [b_big h, decide_eq_false (by omega)]
theorem s_l : ∀ n, n < 32 → ((nI n &&& 31).toBitVec.smod 32).toNat = n := by decide +kernel
theorem b_shl (n : Nat) (hn : n < 32) (x : Int32) {i : Nat} (hi : i < 32) : bt (x <<< (nI n &&& 31)) i = (decide (n ≤ i) && bt x (i - n)) := by
  unfold bt
  rw [Int32.toBitVec_shiftLeft]
  show (x.toBitVec <<< ((nI n &&& 31).toBitVec.smod 32).toNat).getLsbD i = _
  rw [s_l n hn, BitVec.getLsbD_shiftLeft]
  rcases Nat.lt_or_ge i n with h | h
  · simp [h, Nat.not_le.mpr h]
  · simp [hi, h, Nat.not_lt.mpr h]
theorem b_sshr (n : Nat) (hn : n < 32) (x : Int32) {i : Nat} (hi : i < 32) : bt (x >>> (nI n &&& 31)) i = if n + i < 32 then bt x (n + i) else bt x 31 := by
  unfold bt
  rw [Int32.toBitVec_shiftRight]
  show (x.toBitVec.sshiftRight ((nI n &&& 31).toBitVec.smod 32).toNat).getLsbD i = _
  rw [s_l n hn, BitVec.getLsbD_sshiftRight, BitVec.msb_eq_getLsbD_last]
  simp [hi]
/-- the test of one bit -/
theorem b_test (x : Int32) {n : Nat} (hn : n < 32) : ((x >>> (nI n &&& 31)) &&& 1) = 0 ↔ bt x n = false := by
  have e0 : bt ((x >>> (nI n &&& 31)) &&& 1) 0 = bt x n := by
    rw [b_and, b_1, b_sshr n hn x (by omega)]
    simp [hn]
  constructor
  · intro h
    rw [← e0, h, b_0]
  · intro h
    refine b_ext fun i hi => ?_
    rw [b_0]
    by_cases e : i = 0
    · subst e; rw [e0, h]
    · rw [b_and, b_1, decide_eq_false e, Bool.and_false]
theorem b_bit {n i : Nat} (hn : n < 32) (hi : i < 32) : bt ((1 : Int32) <<< (nI n &&& 31)) i = decide (i = n) := by
  rw [b_shl n hn 1 hi, b_1]
  by_cases h : n ≤ i
  · rw [decide_eq_true h, Bool.true_and]
    exact decide_eq_decide.mpr (by omega)
  · rw [decide_eq_false h, Bool.false_and]
    exact (decide_eq_false (by omega)).symm
theorem bit_or : ∀ i, i < 8 → ∀ a, a < 2 ^ i → (nI a ||| ((1 : Int32) <<< (nI i &&& 31))) = nI (a + 2 ^ i) := by decide +kernel
theorem bit_or0 : ∀ i, i < 8 → ∀ a, a < 2 ^ i → (nI a ||| ((0 : Int32) <<< (nI i &&& 31))) = nI a := by decide +kernel
/-! frames -/

theorem zPerson_far {T : Nat → Nat → Int} {p j : Nat} {v : Nat → Int} (hp : p < 8) (hs : v (20 + p) < 9) (h1 : 9 ≤ j) (h2 : j ≠ 10 + p) (h3 : j ≠ 30 + p) (h4 : j ≠ 40 + p) (h5 : j ≠ 50 + p) (h6 : j < 60 ∨ 132 ≤ j) (h7 : j ≠ 134) : zPerson T p v j = v j := by
  have cold : ∀ u : Nat → Int, zCold T p u j = u j := fun u => by
    unfold zCold; split
    · exact uz_ne h3
    · rfl
  have frost : ∀ (u : Nat → Int) (s : Bool), zFrost T p s u j = u j := fun u s => by unfold zFrost zFr; rw [uz_ne h7, uz_ne h2]
  unfold zPerson
  split
  · rename_i hq
    have hb : (v (20 + p)).toNat < 9 := by omega
    rw [cold, frost]
    have own : ∀ u : Nat → Int, zOwn p (v (20 + p)).toNat u j = u j := fun u => by
      unfold zOwn; split
      · exact uz_ne (by omega)
      · exact uz_ne h4
    rw [own]
    unfold zSit
    rw [uz_ne h2, uz_ne (by omega)]
  · rw [cold, frost]
    unfold zFine
    exact uz_ne h5
theorem zPersons_ok {T : Nat → Nat → Int} {ns np : Nat} {k : Nat → Int} {M : Int} {v : Nat → Int} (hT : TOK T ns np) (h : NOK T ns np k M v) : ∀ i, i ≤ np → NOK T ns np (fun q => if q < i then k q + 2 else k q) M (zPersons T v i)
  | 0, _ => NOK_bump h (fun q => by rw [if_neg (by omega)]; omega) (Int.le_refl M)
  | i + 1, hi => by
    have a := zPerson_ok hT (zPersons_ok hT h i (by omega)) (show i < np by omega)
    refine NOK_bump a (fun q => ?_) (Int.le_refl M)
    unfold kUp
    by_cases e : q = i
    · subst e; simp; omega
    · simp only [e, if_false]
      by_cases l : q < i
      · rw [if_pos l, if_pos (by omega)]; omega
      · rw [if_neg l, if_neg (by omega)]; omega
theorem zPersons_far {T : Nat → Nat → Int} {ns np j : Nat} {k : Nat → Int} {M : Int} {v : Nat → Int} (hT : TOK T ns np) (h : NOK T ns np k M v) (hj : (20 ≤ j ∧ j < 30) ∨ j = 132 ∨ j = 133) : ∀ i, i ≤ np → zPersons T v i j = v j
  | 0, _ => rfl
  | i + 1, hi => by
    have hk := zPersons_ok hT h i (by omega)
    have hs := (hk.2.1 i (by omega)).2.1
    have h1 := hT.1
    have h2 := hT.2.1
    rw [zPersons, zPerson_far (by omega) (by omega) (by omega) (by omega) (by omega) (by omega) (by omega) (by omega) (by omega)]
    exact zPersons_far hT h hj i (by omega)
theorem zLoss_ok {T : Nat → Nat → Int} {ns np : Nat} {k : Nat → Int} {M : Int} {v : Nat → Int} (hT : TOK T ns np) (h : NOK T ns np k M v) {b : Nat} (hb : b < ns) : NOK T ns np k M (zLoss T b v) := by
  obtain ⟨t1, t2, t3, -⟩ := hT
  obtain ⟨h1, h2, h3, h4, h5, h6, h7, h8⟩ := h
  have a1 := h1 b hb
  have a2 := t3 b hb
  have fb := lossZ_bd a2.2.2.1 a1.1
  unfold zLoss
  generalize lossZ (T 1 b) (v b) = f at fb ⊢
  have sm : ∀ j, j ≠ b → j ≠ 134 → uz (uz v b (v b - f)) 134 (v 134 + f) j = v j := fun j x y => by rw [uz_ne y, uz_ne x]
  have ep : uz (uz v b (v b - f)) 134 (v 134 + f) b = v b - f := by rw [uz_ne (by omega), uz_eq]
  have eL : uz (uz v b (v b - f)) 134 (v 134 + f) 134 = v 134 + f := uz_eq _ _ _
  refine ⟨fun c hc => ?_, fun q hq => ?_, fun q r hq hr hn he => ?_, fun q c hq hc => ?_, ?_, ?_, ?_, ?_⟩
  · by_cases e : c = b
    · subst e; rw [ep]; omega
    · rw [sm c e (by omega)]; exact h1 c hc
  · rw [sm (10 + q) (by omega) (by omega), sm (20 + q) (by omega) (by omega), sm (30 + q) (by omega) (by omega), sm (40 + q) (by omega) (by omega), sm (50 + q) (by omega) (by omega)]
    exact h2 q hq
  · rw [sm (20 + q) (by omega) (by omega), sm (20 + r) (by omega) (by omega)] at he
    rw [sm (20 + q) (by omega) (by omega)]
    exact h3 q r hq hr hn he
  · rw [sm _ (by omega) (by omega)]; exact h4 q c hq hc
  · rw [sm _ (by omega) (by omega)]; exact h5
  · rw [sm _ (by omega) (by omega)]; exact h6
  · rw [eL]; omega
  · have s1 : zSum (uz (uz v b (v b - f)) 134 (v 134 + f)) 0 ns = zSum v 0 ns - v b + (v b - f) := by
      rw [zSum_out (by omega)]
      have e := zSum_uz (v := v) (o := 0) (i := b) (x := v b - f) hb
      simpa using e
    have s2 : zSum (uz (uz v b (v b - f)) 134 (v 134 + f)) 10 np = zSum v 10 np := by rw [zSum_out (by omega), zSum_out (by omega)]
    rw [eL, s1, s2]
    omega
theorem zCool_ok {T : Nat → Nat → Int} {ns np : Nat} {k : Nat → Int} {M : Int} {v : Nat → Int} (hT : TOK T ns np) (h : NOK T ns np k M v) {b : Nat} (hb : b < ns) : NOK T ns np k M (zCool T np b v) := by
  by_cases e : zEmpty v b np
  · rw [zCool_yes e]; exact zLoss_ok hT h hb
  · rw [zCool_no e]; exact h
theorem zCools_ok {T : Nat → Nat → Int} {ns np : Nat} {k : Nat → Int} {M : Int} {v : Nat → Int} (hT : TOK T ns np) (h : NOK T ns np k M v) : ∀ b, b ≤ ns → NOK T ns np k M (zCools T np v b)
  | 0, _ => h
  | b + 1, hb => zCool_ok hT (zCools_ok hT h b (by omega)) (by omega)
theorem zCool_far {T : Nat → Nat → Int} {np b j : Nat} {v : Nat → Int} (h1 : j ≠ b) (h2 : j ≠ 134) : zCool T np b v j = v j := by
  by_cases e : zEmpty v b np
  · rw [zCool_yes e]; unfold zLoss; rw [uz_ne h2, uz_ne h1]
  · rw [zCool_no e]
theorem zCools_far {T : Nat → Nat → Int} {np j : Nat} {v : Nat → Int} (h2 : j ≠ 134) : ∀ b, b ≤ j → zCools T np v b j = v j
  | 0, _ => rfl
  | b + 1, hb => by rw [zCools, zCool_far (by omega) h2]; exact zCools_far h2 b (by omega)
theorem zMin_ok {T : Nat → Nat → Int} {ns np : Nat} {k : Nat → Int} {M : Int} {v : Nat → Int} (hT : TOK T ns np) (h : NOK T ns np k M v) : NOK T ns np k (M + 1) (uz v 132 (v 132 + 1)) := by
  obtain ⟨t1, t2, -⟩ := hT
  obtain ⟨h1, h2, h3, h4, h5, h6, h7, h8⟩ := h
  have sm : ∀ j, j ≠ 132 → uz v 132 (v 132 + 1) j = v j := fun j x => uz_ne x
  refine ⟨fun c hc => ?_, fun q hq => ?_, fun q r hq hr hn he => ?_, fun q c hq hc => ?_, ?_, ?_, ?_, ?_⟩
  · rw [sm _ (by omega)]; exact h1 c hc
  · rw [sm (10 + q) (by omega), sm (20 + q) (by omega), sm (30 + q) (by omega), sm (40 + q) (by omega), sm (50 + q) (by omega)]; exact h2 q hq
  · rw [sm _ (by omega), sm _ (by omega)] at he
    rw [sm _ (by omega)]
    exact h3 q r hq hr hn he
  · rw [sm _ (by omega)]; exact h4 q c hq hc
  · rw [uz_eq]; omega
  · rw [sm _ (by omega)]; exact h6
  · rw [sm _ (by omega)]; exact h7
  · rw [sm _ (by omega), zSum_out (by omega), zSum_out (by omega)]; exact h8
theorem zPass_ok {T : Nat → Nat → Int} {ns np : Nat} {M : Int} {v : Nat → Int} (hT : TOK T ns np) (h : NOK T ns np (fun _ => 2 * M) M v) : NOK T ns np (fun _ => 2 * (M + 1)) (M + 1) (zPass T ns np v) := by
  unfold zPass
  refine zCools_ok hT (NOK_bump (zPersons_ok hT (zMin_ok hT h) np (Nat.le_refl np)) (fun q => ?_) (Int.le_refl _)) ns (Nat.le_refl ns)
  split <;> omega
/-! the cold ones -/
theorem zCs_lt (T : Nat → Nat → Int) (v : Nat → Int) : ∀ n, zCs T v n < 2 ^ n
  | 0 => Nat.zero_lt_one
  | n + 1 => by
    have := zCs_lt T v n
    rw [zCs, Nat.pow_succ]
    split <;> omega
theorem zCs_cong {T : Nat → Nat → Int} {v u : Nat → Int} : ∀ {n : Nat}, (∀ p, p < n → v (10 + p) = u (10 + p)) → zCs T v n = zCs T u n
  | 0, _ => rfl
  | n + 1, h => by rw [zCs, zCs, zCs_cong (fun p hp => h p (by omega)), h n (by omega)]
theorem zCs_step {T : Nat → Nat → Int} {ns np : Nat} {k : Nat → Int} {M : Int} {v : Nat → Int} (hT : TOK T ns np) (h : NOK T ns np k M v) {i : Nat} (hi : i < np) : zCs T (zPersons T v (i + 1)) i = zCs T (zPersons T v i) i := by
  have hk := zPersons_ok hT h i (by omega)
  have hs := (hk.2.1 i hi).2.1
  have h1 := hT.1
  have h2 := hT.2.1
  refine zCs_cong fun p hp => ?_
  rw [zPersons, zPerson_far (by omega) (by omega) (by omega) (by omega) (by omega) (by omega) (by omega) (by omega) (by omega)]
theorem zCs_pass {T : Nat → Nat → Int} {ns np : Nat} {v : Nat → Int} (hT : TOK T ns np) : zCs T (zPass T ns np v) np = zCs T (zPersons T (uz v 132 (v 132 + 1)) np) np := by
  have h1 := hT.1
  have h2 := hT.2.1
  refine zCs_cong fun p hp => ?_
  unfold zPass
  exact zCools_far (by omega) ns (by omega)
