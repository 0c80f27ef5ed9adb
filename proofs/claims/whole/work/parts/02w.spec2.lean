/-! calls that change a row: the answer, and the row behind it -/
def qSit (ns np : Nat) (v : Nat → Int) (p b : Int) : Int × (Nat → Int) :=
  if ¬ (0 ≤ p ∧ p < np) ∨ (b ≠ -1 ∧ ¬ (0 ≤ b ∧ b < ns)) then (-1000000001, v)
  else if 0 ≤ b ∧ zFirst v b.toNat np ≠ none ∧ zFirst v b.toNat np ≠ some p.toNat then (-1000000003, v)
  else (v (20 + p.toNat), uz v (20 + p.toNat) b)
noncomputable def qGo (T : Nat → Nat → Int) (ns np : Nat) (v : Nat → Int) (n : Int) : Int × (Nat → Int) :=
  if 1 ≤ n ∧ n ≤ 999 then ((zCs T (zGo T ns np v n.toNat) np : Nat), zGo T ns np v n.toNat) else (-1000000002, v)
def qOwn (ns np : Nat) (v : Nat → Int) (p b n : Int) : Int × (Nat → Int) :=
  if ¬ (0 ≤ p ∧ p < np) ∨ ¬ (0 ≤ b ∧ b < ns) then (-1000000001, v)
  else if ¬ (1 ≤ n ∧ n ≤ 9999) then (-1000000002, v)
  else (minZ (v (60 + (9 * p.toNat + b.toNat)) + n) 99999, uz v (60 + (9 * p.toNat + b.toNat)) (minZ (v (60 + (9 * p.toNat + b.toNat)) + n) 99999))
def qTrade (ns np : Nat) (v : Nat → Int) (p q b n : Int) : Int × (Nat → Int) :=
  if ¬ (0 ≤ p ∧ p < np) ∨ ¬ (0 ≤ q ∧ q < np) ∨ p = q ∨ ¬ (0 ≤ b ∧ b < ns) then (-1000000001, v)
  else if ¬ (1 ≤ n ∧ n ≤ 9999) then (-1000000002, v)
  else if v (60 + (9 * p.toNat + b.toNat)) < n then (-1000000003, v)
  else if 99999 < v (60 + (9 * q.toNat + b.toNat)) + n then (-1000000004, v)
  else (v (60 + (9 * p.toNat + b.toNat)) - n, uz (uz v (60 + (9 * p.toNat + b.toNat)) (v (60 + (9 * p.toNat + b.toNat)) - n)) (60 + (9 * q.toNat + b.toNat)) (v (60 + (9 * q.toNat + b.toNat)) + n))
def qForgive (np : Nat) (v : Nat → Int) (p : Int) : Int × (Nat → Int) :=
  if 0 ≤ p ∧ p < np then (v (50 + p.toNat), uz (uz v (50 + p.toNat) 0) (40 + p.toNat) 0) else (-1000000001, v)
def qSeed (v : Nat → Int) (s : Int) : Int × (Nat → Int) := if s < 0 then (-1000000002, v) else (v 133, uz v 133 s)
def zDr (s : Int) : Int := (s * 1103515245 + 12345) % 2147483648
def zDv (s n : Int) : Int := s / 65536 % n
theorem l_rem {a b : Int64} {x y : Int} (ha : a.toInt = x) (hb : b.toInt = y) (h0 : 0 ≤ x) (hy : 0 < y) : (a - a / b * b).toInt = x % y := by
  have hx := fb_rngL a
  rw [ha] at hx
  have e1 : (a / b).toInt = x / y := by rw [l_div ha hb hy]; exact if_pos h0
  have h1 : 0 ≤ x / y := Int.ediv_nonneg h0 (by omega)
  have h2 : x / y * y ≤ x := Int.ediv_mul_le x (by omega)
  have h3 : 0 ≤ x / y * y := Int.mul_nonneg h1 (by omega)
  have e2 : (a / b * b).toInt = x / y * y := l_mul e1 hb (by omega) (by omega)
  rw [l_sub ha e2 (by omega) (by omega)]
  have := Int.emod_def x y
  rw [Int.mul_comm y] at this
  omega
theorem i_rem {a b : Int32} {x y : Int} (ha : a.toInt = x) (hb : b.toInt = y) (h0 : 0 ≤ x) (hy : 0 < y) : (a - a / b * b).toInt = x % y := by
  have hx := fb_rng a
  rw [ha] at hx
  have e1 : (a / b).toInt = x / y := by rw [i_div ha hb hy]; exact if_pos h0
  have h1 : 0 ≤ x / y := Int.ediv_nonneg h0 (by omega)
  have h2 : x / y * y ≤ x := Int.ediv_mul_le x (by omega)
  have h3 : 0 ≤ x / y * y := Int.mul_nonneg h1 (by omega)
  have e2 : (a / b * b).toInt = x / y * y := i_mul e1 hb (by omega) (by omega)
  rw [i_sub ha e2 (by omega) (by omega)]
  have := Int.emod_def x y
  rw [Int.mul_comm y] at this
  omega
theorem zDr_in (s : Int) : 0 ≤ zDr s ∧ zDr s < 2147483648 := ⟨Int.emod_nonneg _ (by omega), Int.emod_lt_of_pos _ (by omega)⟩
def zWan (ns np p : Nat) (v : Nat → Int) : Nat → Int :=
  if zDv (zDr (v 133)) 4 = 0 then
    (fun v3 : Nat → Int => uz v3 (20 + p) (if zDv (zDr (zDr (v 133))) (ns + 1) < ns ∧ zFirst v3 (zDv (zDr (zDr (v 133))) (ns + 1)).toNat np = none then zDv (zDr (zDr (v 133))) (ns + 1) else -1)) (uz (uz (uz v 133 (zDr (v 133))) (20 + p) (-1)) 133 (zDr (zDr (v 133))))
  else uz v 133 (zDr (v 133))
def zWans (ns np : Nat) (v : Nat → Int) : Nat → Nat → Int
  | 0 => v
  | p + 1 => zWan ns np p (zWans ns np v p)
noncomputable def zDrift (T : Nat → Nat → Int) (ns np : Nat) (v : Nat → Int) : Nat → Nat → Int
  | 0 => v
  | n + 1 => zPass T ns np (zWans ns np (zDrift T ns np v n) np)
noncomputable def qDrift (T : Nat → Nat → Int) (ns np : Nat) (v : Nat → Int) (n : Int) : Int × (Nat → Int) :=
  if 1 ≤ n ∧ n ≤ 999 then ((zCs T (zDrift T ns np v n.toNat) np : Nat), zDrift T ns np v n.toNat) else (-1000000002, v)
abbrev inR (x m : Int32) : Prop := ¬ x.toInt64 < 0 ∧ ¬ (m - 1).toInt64 < x.toInt64
theorem inR_iff {x m : Int32} {n : Nat} (hm : m = nI n) (hn : n < 1000) : inR x m ↔ (0 ≤ x.toInt ∧ x.toInt < n) := by
  have e : (m - 1).toInt64.toInt = (n : Int) - 1 := by
    rw [hm]
    exact i_l (i_sub (nI_toInt (by omega)) i32_1 (by omega) (by omega))
  have ex : x.toInt64.toInt = x.toInt := i_l rfl
  unfold inR
  rw [l_lt ex (show (0 : Int64).toInt = 0 from rfl), l_lt e ex]
  omega
theorem MR.u0 {i : Nat} {w : Nat → Int64} {v : Nat → Int} {y : Int64} {z : Int} (h : MR 0 w v) (hz : y.toInt = z) : MR 0 (vp_updL w i y) (uz v i z) := by
  have := h.up (i := i) hz
  rwa [Nat.zero_add] at this
theorem MF.u0 {i : Nat} {w0 w : Nat → Int64} {y : Int64} (h : MF 0 w0 w) (hi : i < 140) : MF 0 w0 (vp_updL w i y) := by
  have := h.up (i := i) (y := y) hi
  rwa [Nat.zero_add] at this
theorem zFirst_cases (v : Nat → Int) (b : Nat) : ∀ n : Nat, (zEmpty v b n ∧ zFirst v b n = none) ∨ ∃ p, p < n ∧ zFirst v b n = some p ∧ v (20 + p) = (b : Int) ∧ zSitter v b n = nI p
  | 0 => Or.inl ⟨trivial, rfl⟩
  | n + 1 => by
    rcases zFirst_cases v b n with ⟨h1, h2⟩ | ⟨p, h1, h2, h3, h4⟩
    · by_cases e : v (20 + n) = (b : Int)
      · exact Or.inr ⟨n, by omega, zFirst_some h1 e (by omega), e, zSitter_yes h1 e (by omega)⟩
      · exact Or.inl ⟨⟨h1, e⟩, zFirst_none ⟨h1, e⟩⟩
    · have e : zFirst v b (n + 1) = some p := by rw [zFirst, h2]
      refine Or.inr ⟨p, by omega, e, h3, ?_⟩
      unfold zSitter
      rw [e]
