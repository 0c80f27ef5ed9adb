/-! whole numbers behind Java's ints and longs -/
theorem fb_rng (x : Int32) : -2147483648 ≤ x.toInt ∧ x.toInt < 2147483648 := by
  have h1 := Int32.le_toInt x
  have h2 := Int32.toInt_lt x
  omega
theorem fb_bmod {z : Int} (h1 : -2147483648 ≤ z) (h2 : z < 2147483648) : z.bmod (2 ^ 32) = z := by
  rw [Int.bmod_eq_of_le (by omega) (by omega)]
theorem fb_rngL (x : Int64) : -9223372036854775808 ≤ x.toInt ∧ x.toInt < 9223372036854775808 := by
  have h1 := Int64.le_toInt x
  have h2 := Int64.toInt_lt x
  omega
theorem fb_bmodL {z : Int} (h1 : -9223372036854775808 ≤ z) (h2 : z < 9223372036854775808) : z.bmod (2 ^ 64) = z := by
  rw [Int.bmod_eq_of_le (by omega) (by omega)]
theorem i_add {a b : Int32} {x y : Int} (ha : a.toInt = x) (hb : b.toInt = y) (h1 : -2147483648 ≤ x + y) (h2 : x + y < 2147483648) : (a + b).toInt = x + y := by
  rw [Int32.toInt_add, ha, hb, fb_bmod h1 h2]
theorem i_sub {a b : Int32} {x y : Int} (ha : a.toInt = x) (hb : b.toInt = y) (h1 : -2147483648 ≤ x - y) (h2 : x - y < 2147483648) : (a - b).toInt = x - y := by
  rw [Int32.toInt_sub, ha, hb, fb_bmod h1 h2]
theorem i_mul {a b : Int32} {x y : Int} (ha : a.toInt = x) (hb : b.toInt = y) (h1 : -2147483648 ≤ x * y) (h2 : x * y < 2147483648) : (a * b).toInt = x * y := by
  rw [Int32.toInt_mul, ha, hb, fb_bmod h1 h2]
theorem l_add {a b : Int64} {x y : Int} (ha : a.toInt = x) (hb : b.toInt = y) (h1 : -9223372036854775808 ≤ x + y) (h2 : x + y < 9223372036854775808) : (a + b).toInt = x + y := by
  rw [Int64.toInt_add, ha, hb, fb_bmodL h1 h2]
theorem l_sub {a b : Int64} {x y : Int} (ha : a.toInt = x) (hb : b.toInt = y) (h1 : -9223372036854775808 ≤ x - y) (h2 : x - y < 9223372036854775808) : (a - b).toInt = x - y := by
  rw [Int64.toInt_sub, ha, hb, fb_bmodL h1 h2]
theorem l_mul {a b : Int64} {x y : Int} (ha : a.toInt = x) (hb : b.toInt = y) (h1 : -9223372036854775808 ≤ x * y) (h2 : x * y < 9223372036854775808) : (a * b).toInt = x * y := by
  rw [Int64.toInt_mul, ha, hb, fb_bmodL h1 h2]
/-- division that cuts towards nought -/
def dvZ (a d : Int) : Int := if 0 ≤ a then a / d else -(-a / d)
theorem tdiv_dv (a d : Int) : a.tdiv d = dvZ a d := by
  unfold dvZ
  split
  · exact Int.tdiv_eq_ediv_of_nonneg (by assumption)
  · have e : a = -(-a) := by omega
    rw [e, Int.neg_tdiv, Int.tdiv_eq_ediv_of_nonneg (by omega), Int.neg_neg]
theorem i_div {a b : Int32} {x y : Int} (ha : a.toInt = x) (hb : b.toInt = y) (hy : 0 < y) : (a / b).toInt = dvZ x y := by
  rw [Int32.toInt_div_of_ne_right a b (fun h => by subst h; rw [show ((-1 : Int32)).toInt = -1 from rfl] at hb; omega), ha, hb, tdiv_dv]
theorem l_div {a b : Int64} {x y : Int} (ha : a.toInt = x) (hb : b.toInt = y) (hy : 0 < y) : (a / b).toInt = dvZ x y := by
  rw [Int64.toInt_div_of_ne_right a b (fun h => by subst h; rw [show ((-1 : Int64)).toInt = -1 from rfl] at hb; omega), ha, hb, tdiv_dv]
theorem i_lt {a b : Int32} {x y : Int} (ha : a.toInt = x) (hb : b.toInt = y) : a < b ↔ x < y := by rw [Int32.lt_iff_toInt_lt, ha, hb]
theorem i_le {a b : Int32} {x y : Int} (ha : a.toInt = x) (hb : b.toInt = y) : a ≤ b ↔ x ≤ y := by rw [Int32.le_iff_toInt_le, ha, hb]
theorem i_eq {a b : Int32} {x y : Int} (ha : a.toInt = x) (hb : b.toInt = y) : a = b ↔ x = y := by rw [← Int32.toInt_inj, ha, hb]
theorem l_lt {a b : Int64} {x y : Int} (ha : a.toInt = x) (hb : b.toInt = y) : a < b ↔ x < y := by rw [Int64.lt_iff_toInt_lt, ha, hb]
theorem l_le {a b : Int64} {x y : Int} (ha : a.toInt = x) (hb : b.toInt = y) : a ≤ b ↔ x ≤ y := by rw [Int64.le_iff_toInt_le, ha, hb]
theorem l_eq {a b : Int64} {x y : Int} (ha : a.toInt = x) (hb : b.toInt = y) : a = b ↔ x = y := by rw [← Int64.toInt_inj, ha, hb]
theorem l_i {a : Int64} {b : Int32} (h : a.toInt = b.toInt) : a.toInt32 = b := by
  rw [← Int32.toInt_inj, Int64.toInt_toInt32, h, fb_bmod (fb_rng b).1 (fb_rng b).2]
theorem l_iZ {a : Int64} {x : Int} (h : a.toInt = x) (h1 : -2147483648 ≤ x) (h2 : x < 2147483648) : a.toInt32.toInt = x := by
  rw [Int64.toInt_toInt32, h, fb_bmod h1 h2]
theorem i_l {a : Int32} {x : Int} (h : a.toInt = x) : a.toInt64.toInt = x := by rw [Int32.toInt_toInt64, h]
theorem i_if {c d : Prop} [Decidable c] [Decidable d] {a b : Int32} {x y : Int} (hc : c ↔ d) (ha : a.toInt = x) (hb : b.toInt = y) : (if c then a else b).toInt = if d then x else y := by
  by_cases h : d
  · rw [if_pos (hc.mpr h), if_pos h, ha]
  · rw [if_neg (fun q => h (hc.mp q)), if_neg h, hb]
theorem l_if {c d : Prop} [Decidable c] [Decidable d] {a b : Int64} {x y : Int} (hc : c ↔ d) (ha : a.toInt = x) (hb : b.toInt = y) : (if c then a else b).toInt = if d then x else y := by
  by_cases h : d
  · rw [if_pos (hc.mpr h), if_pos h, ha]
  · rw [if_neg (fun q => h (hc.mp q)), if_neg h, hb]
/-- an int that names a place -/
theorem vp_nat {x : Int32} {n : Nat} (h : vp_in x n) : 0 ≤ x.toInt ∧ x.toInt < n ∧ x.toNatClampNeg = x.toInt.toNat ∧ x.toNatClampNeg < n := by
  have := vp_in_iff.mp h
  have e : x.toNatClampNeg = x.toInt.toNat := (Int32.toNat_toInt x).symm
  refine ⟨this.1, this.2, e, ?_⟩
  omega
theorem vp_of {x : Int32} {n : Nat} {z : Int} (h : x.toInt = z) (h0 : 0 ≤ z) (h1 : z < n) : vp_in x n := vp_in_iff.mpr (by omega)
theorem cl_of {x : Int32} {n : Nat} (h : x.toInt = (n : Int)) : x.toNatClampNeg = n := by
  rw [← Int32.toNat_toInt, h]; omega
theorem i32_0 : (0 : Int32).toInt = 0 := rfl
theorem i32_1 : (1 : Int32).toInt = 1 := rfl
/-! what one person and one stone do -/
def resZ (k : Int) : Int := if k = 1 then 4 else if k = 3 then 2 else 8
def flowZ (k z w h : Int) : Int :=
  (fun f1 : Int => if z - h < f1 then z - h else f1) ((fun f0 : Int => if (k = 2 ∧ 0 < f0) ∨ (k = 3 ∧ f0 < 0) then 0 else f0) (dvZ (w - h) (resZ k)))
def lossZ (pt h : Int) : Int := if h ≤ 0 then 0 else if 1 < h / pt then h / pt else 1
def frostZ (k fu fd : Int) (s : Bool) : Int := if k = 4 then fu / 2 else if s then fd else fu
def minZ (x y : Int) : Int := if y < x then y else x
theorem resZ_pos (k : Int) : 0 < resZ k := by unfold resZ; split; decide; split <;> decide
theorem flowZ_bd {k z w h : Int} (hw : 0 ≤ w) (hw2 : w ≤ 9999) (hh : 0 ≤ h) (hz : h ≤ z) (hz2 : z ≤ 9999) : 0 ≤ h + flowZ k z w h ∧ h + flowZ k z w h ≤ z ∧ 0 ≤ w - flowZ k z w h ∧ w - flowZ k z w h ≤ 9999 ∧ -9999 ≤ flowZ k z w h ∧ flowZ k z w h ≤ 9999 := by
  have hd : resZ k = 4 ∨ resZ k = 2 ∨ resZ k = 8 := by
    unfold resZ
    by_cases k1 : k = 1
    · exact Or.inl (if_pos k1)
    · rw [if_neg k1]
      by_cases k3 : k = 3
      · exact Or.inr (Or.inl (if_pos k3))
      · exact Or.inr (Or.inr (if_neg k3))
  unfold flowZ dvZ
  rcases hd with e | e | e <;> rw [e] <;> dsimp only <;> split <;> split <;> (try split) <;> (try split) <;> omega
theorem lossZ_bd {pt h : Int} (hp : 2 ≤ pt) (hh : 0 ≤ h) : 0 ≤ lossZ pt h ∧ lossZ pt h ≤ h := by
  unfold lossZ
  have h1 : 0 ≤ h / pt := Int.ediv_nonneg hh (by omega)
  have h2 : h / pt ≤ h := Int.ediv_le_self pt hh
  split
  · omega
  · split <;> omega
/-! the same in Java's ints, as the class computes it -/
def resI (k : Int32) : Int32 := if k = 1 then 4 else if k = 3 then 2 else 8
def flowI (k z w h : Int32) : Int32 :=
  (fun f2 : Int32 => if z - h < f2 then z - h else f2) ((fun f1 : Int32 => if k = 3 then (if f1 < 0 then 0 else f1) else f1) ((fun f0 : Int32 => if k = 2 then (if 0 < f0 then 0 else f0) else f0) ((w - h) / resI k)))
theorem resI_ne (k : Int32) : ¬ resI k = 0 := by
  unfold resI
  split
  · decide
  · split <;> decide
def frostI (k fu fd s : Int32) : Int32 := if k = 4 then fu / 2 else if s = 0 then fu else fd
def lossI (pt h : Int32) : Int32 := if h ≤ 0 then 0 else if pt ≤ 0 then 0 else (if 1 < h / pt then h / pt else 1)
/-- Math.min(x, y) -/
def minI (x y : Int32) : Int32 := if y < x then y else x
theorem resI_Z {k : Int32} {K : Int} (hk : k.toInt = K) : (resI k).toInt = resZ K := i_if (i_eq hk rfl) rfl (i_if (i_eq hk rfl) rfl rfl)
theorem minI_Z {x y : Int32} {X Y : Int} (hx : x.toInt = X) (hy : y.toInt = Y) : (minI x y).toInt = minZ X Y := i_if (i_lt hy hx) hy hx
theorem flowI_Z {k z w h : Int32} {K Z X Y : Int} (hk : k.toInt = K) (hz : z.toInt = Z) (hw : w.toInt = X) (hh : h.toInt = Y) (b1 : 0 ≤ X) (b2 : X ≤ 9999) (b3 : 0 ≤ Y) (b4 : Y ≤ Z) (b5 : Z ≤ 9999) : (flowI k z w h).toInt = flowZ K Z X Y := by
  have e0 : ((w - h) / resI k).toInt = dvZ (X - Y) (resZ K) := i_div (i_sub hw hh (by omega) (by omega)) (resI_Z hk) (resZ_pos K)
  have ez : (z - h).toInt = Z - Y := i_sub hz hh (by omega) (by omega)
  unfold flowI flowZ
  generalize (w - h) / resI k = f0 at e0 ⊢
  generalize dvZ (X - Y) (resZ K) = g0 at e0 ⊢
  dsimp only
  have e1 : (if k = 2 then (if 0 < f0 then (0 : Int32) else f0) else f0).toInt = if K = 2 then (if 0 < g0 then 0 else g0) else g0 := i_if (i_eq hk rfl) (i_if (i_lt rfl e0) rfl e0) e0
  generalize (if k = 2 then (if 0 < f0 then (0 : Int32) else f0) else f0) = f1 at e1 ⊢
  have e2 : (if k = 3 then (if f1 < 0 then (0 : Int32) else f1) else f1).toInt = if K = 3 then (if f1.toInt < 0 then 0 else f1.toInt) else f1.toInt := i_if (i_eq hk rfl) (i_if (i_lt rfl rfl) rfl rfl) rfl
  generalize (if k = 3 then (if f1 < 0 then (0 : Int32) else f1) else f1) = f2 at e2 ⊢
  have e3 : f2.toInt = if (K = 2 ∧ 0 < g0) ∨ (K = 3 ∧ g0 < 0) then 0 else g0 := by
    rw [e2, e1]
    by_cases k2 : K = 2
    · subst k2; simp
    · by_cases k3 : K = 3
      · subst k3; simp
      · simp [k2, k3]
  rw [← e3]
  exact i_if (i_lt ez rfl) ez rfl
theorem lossI_Z {pt h : Int32} {P Y : Int} (hp : pt.toInt = P) (hh : h.toInt = Y) (b1 : 2 ≤ P) (b2 : 0 ≤ Y) : (lossI pt h).toInt = lossZ P Y := by
  unfold lossI lossZ
  refine i_if (i_le hh rfl) rfl ?_
  have e : (h / pt).toInt = Y / P := by
    rw [i_div hh hp (by omega)]
    exact if_pos b2
  rw [if_neg (fun q => by have := (i_le hp rfl).mp q; rw [i32_0] at this; omega)]
  exact i_if (i_lt rfl e) e rfl
theorem frostI_Z {k fu fd s : Int32} {K U D : Int} {b : Bool} (hk : k.toInt = K) (hu : fu.toInt = U) (hd : fd.toInt = D) (hs : s = if b then 1 else 0) (b1 : 0 ≤ U) : (frostI k fu fd s).toInt = frostZ K U D b := by
  unfold frostI frostZ
  refine i_if (i_eq hk rfl) ?_ ?_
  · rw [i_div hu (show (2 : Int32).toInt = 2 from rfl) (by omega)]
    exact if_pos b1
  · subst hs
    cases b
    · exact hu
    · exact hd
/-- one minute of one person on one stone (or standing): what the person has, what the stone has -/
def sitW (ns fu fd : Int32) (k z bq w h : Int32) : Int32 :=
  if ¬ bq < 0 ∧ ¬ ns ≤ bq then (w - flowI k z w h) - minI (w - flowI k z w h) (frostI k fu fd 1) else w - minI w (frostI k fu fd 0)
def sitH (ns : Int32) (k z bq w h : Int32) : Int32 := if ¬ bq < 0 ∧ ¬ ns ≤ bq then h + flowI k z w h else h
