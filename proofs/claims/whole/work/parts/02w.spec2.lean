/-! calls that change a row: the answer, and the row behind it -/
def qSit (ns np : Nat) (v : Nat → Int) (p b : Int) : Int × (Nat → Int) :=
  if ¬ (0 ≤ p ∧ p < np) ∨ (b ≠ -1 ∧ ¬ (0 ≤ b ∧ b < ns)) then (-1000000001, v)
  else if 0 ≤ b ∧ zFirst v b.toNat np ≠ none ∧ zFirst v b.toNat np ≠ some p.toNat then (-1000000003, v)
  else (v (20 + p.toNat), uz v (20 + p.toNat) b)
noncomputable def qGo (T : Nat → Nat → Int) (ns np : Nat) (v : Nat → Int) (n : Int) : Int × (Nat → Int) :=
  if 1 ≤ n ∧ n ≤ 999 then ((zCs T (zGo T ns np v n.toNat) np : Nat), zGo T ns np v n.toNat) else (-1000000002, v)
def qOwn (ns np : Nat) (v : Nat → Int) (p b n : Int) : Int × (Nat → Int) :=
  if ¬ (0 ≤ p ∧ p < np) ∨ ¬ (0 ≤ b ∧ b < ns) then (-1000000001, v)
  else if ¬ (1 ≤ n ∧ n ≤ 9999) then (-1000000002, v)
  else (minZ (v (60 + (9 * p.toNat + b.toNat)) + n) 99999, uz v (60 + (9 * p.toNat + b.toNat)) (minZ (v (60 + (9 * p.toNat + b.toNat)) + n) 99999))
def qTrade (ns np : Nat) (v : Nat → Int) (p q b n : Int) : Int × (Nat → Int) :=
  if ¬ (0 ≤ p ∧ p < np) ∨ ¬ (0 ≤ q ∧ q < np) ∨ p = q ∨ ¬ (0 ≤ b ∧ b < ns) then (-1000000001, v)
  else if ¬ (1 ≤ n ∧ n ≤ 9999) then (-1000000002, v)
  else if v (60 + (9 * p.toNat + b.toNat)) < n then (-1000000003, v)
  else if 99999 < v (60 + (9 * q.toNat + b.toNat)) + n then (-1000000004, v)
  else (v (60 + (9 * p.toNat + b.toNat)) - n, uz (uz v (60 + (9 * p.toNat + b.toNat)) (v (60 + (9 * p.toNat + b.toNat)) - n)) (60 + (9 * q.toNat + b.toNat)) (v (60 + (9 * q.toNat + b.toNat)) + n))
def qForgive (np : Nat) (v : Nat → Int) (p : Int) : Int × (Nat → Int) :=
  if 0 ≤ p ∧ p < np then (v (50 + p.toNat), uz (uz v (50 + p.toNat) 0) (40 + p.toNat) 0) else (-1000000001, v)
def qSeed (v : Nat → Int) (s : Int) : Int × (Nat → Int) := if s < 0 then (-1000000002, v) else (v 133, uz v 133 s)
def zDr (s : Int) : Int := (s * 1103515245 + 12345) % 2147483648
def zDv (s n : Int) : Int := s / 65536 % n
theorem l_rem {a b : Int64} {x y : Int} (ha : a.toInt = x) (hb : b.toInt = y) (h0 : 0 ≤ x) (hy : 0 < y) : (a - a / b * b).toInt = x % y := by
  have hx := fb_rngL a
  rw [ha] at hx
  have e1 : (a / b).toInt = x / y := by rw [l_div ha hb hy]; exact if_pos h0
  have h1 : 0 ≤ x / y := Int.ediv_nonneg h0 (by omega)
  have h2 : x / y * y ≤ x := Int.ediv_mul_le x (by omega)
  have h3 : 0 ≤ x / y * y := Int.mul_nonneg h1 (by omega)
  have e2 : (a / b * b).toInt = x / y * y := l_mul e1 hb (by omega) (by omega)
  rw [l_sub ha e2 (by omega) (by omega)]
  have := Int.emod_def x y
  rw [Int.mul_comm y] at this
  omega
theorem i_rem {a b : Int32} {x y : Int} (ha : a.toInt = x) (hb : b.toInt = y) (h0 : 0 ≤ x) (hy : 0 < y) : (a - a / b * b).toInt = x % y := by
  have hx := fb_rng a
  rw [ha] at hx
  have e1 : (a / b).toInt = x / y := by rw [i_div ha hb hy]; exact if_pos h0
  have h1 : 0 ≤ x / y := Int.ediv_nonneg h0 (by omega)
  have h2 : x / y * y ≤ x := Int.ediv_mul_le x (by omega)
  have h3 : 0 ≤ x / y * y := Int.mul_nonneg h1 (by omega)
  have e2 : (a / b * b).toInt = x / y * y := i_mul e1 hb (by omega) (by omega)
  rw [i_sub ha e2 (by omega) (by omega)]
  have := Int.emod_def x y
  rw [Int.mul_comm y] at this
  omega
theorem zDr_in (s : Int) : 0 ≤ zDr s ∧ zDr s < 2147483648 := ⟨Int.emod_nonneg _ (by omega), Int.emod_lt_of_pos _ (by omega)⟩
def zWan (ns np p : Nat) (v : Nat → Int) : Nat → Int :=
  if zDv (zDr (v 133)) 4 = 0 then
    (fun v3 : Nat → Int => uz v3 (20 + p) (if zDv (zDr (zDr (v 133))) (ns + 1) < ns ∧ zFirst v3 (zDv (zDr (zDr (v 133))) (ns + 1)).toNat np = none then zDv (zDr (zDr (v 133))) (ns + 1) else -1)) (uz (uz (uz v 133 (zDr (v 133))) (20 + p) (-1)) 133 (zDr (zDr (v 133))))
  else uz v 133 (zDr (v 133))
def zWans (ns np : Nat) (v : Nat → Int) : Nat → Nat → Int
  | 0 => v
  | p + 1 => zWan ns np p (zWans ns np v p)
noncomputable def zDrift (T : Nat → Nat → Int) (ns np : Nat) (v : Nat → Int) : Nat → Nat → Int
  | 0 => v
  | n + 1 => zPass T ns np (zWans ns np (zDrift T ns np v n) np)
noncomputable def qDrift (T : Nat → Nat → Int) (ns np : Nat) (v : Nat → Int) (n : Int) : Int × (Nat → Int) :=
  if 1 ≤ n ∧ n ≤ 999 then ((zCs T (zDrift T ns np v n.toNat) np : Nat), zDrift T ns np v n.toNat) else (-1000000002, v)
abbrev inR (x m : Int32) : Prop := ¬ x.toInt64 < 0 ∧ ¬ (m - 1).toInt64 < x.toInt64
theorem inR_iff {x m : Int32} {n : Nat} (hm : m = nI n) (hn : n < 1000) : inR x m ↔ (0 ≤ x.toInt ∧ x.toInt < n) := by
  have e : (m - 1).toInt64.toInt = (n : Int) - 1 := by
    rw [hm]
    exact i_l (i_sub (nI_toInt (by omega)) i32_1 (by omega) (by omega))
  have ex : x.toInt64.toInt = x.toInt := i_l rfl
  unfold inR
  rw [l_lt ex (show (0 : Int64).toInt = 0 from rfl), l_lt e ex]
  omega
theorem MR.u0 {i : Nat} {w : Nat → Int64} {v : Nat → Int} {y : Int64} {z : Int} (h : MR 0 w v) (hz : y.toInt = z) : MR 0 (vp_updL w i y) (uz v i z) := by
  have := h.up (i := i) hz
  rwa [Nat.zero_add] at this
theorem MF.u0 {i : Nat} {w0 w : Nat → Int64} {y : Int64} (h : MF 0 w0 w) (hi : i < 140) : MF 0 w0 (vp_updL w i y) := by
  have := h.up (i := i) (y := y) hi
  rwa [Nat.zero_add] at this
theorem zFirst_cases (v : Nat → Int) (b : Nat) : ∀ n : Nat, (zEmpty v b n ∧ zFirst v b n = none) ∨ ∃ p, p < n ∧ zFirst v b n = some p ∧ v (20 + p) = (b : Int) ∧ zSitter v b n = nI p
  | 0 => Or.inl ⟨trivial, rfl⟩
  | n + 1 => by
    rcases zFirst_cases v b n with ⟨h1, h2⟩ | ⟨p, h1, h2, h3, h4⟩
    · by_cases e : v (20 + n) = (b : Int)
      · exact Or.inr ⟨n, by omega, zFirst_some h1 e (by omega), e, zSitter_yes h1 e (by omega)⟩
      · exact Or.inl ⟨⟨h1, e⟩, zFirst_none ⟨h1, e⟩⟩
    · have e : zFirst v b (n + 1) = some p := by rw [zFirst, h2]
      refine Or.inr ⟨p, by omega, e, h3, ?_⟩
      unfold zSitter
      rw [e]
theorem NOK_seed {T : Nat → Nat → Int} {ns np : Nat} {k : Nat → Int} {M x : Int} {v : Nat → Int} (hT : TOK T ns np) (h : NOK T ns np k M v) (h0 : 0 ≤ x) (h9 : x < 2147483648) : NOK T ns np k M (uz v 133 x) := by
  obtain ⟨t1, t2, -⟩ := hT
  obtain ⟨h1, h2, h3, h4, h5, h6, h7, h8⟩ := h
  have sm : ∀ j, j ≠ 133 → uz v 133 x j = v j := fun j q => uz_ne q
  refine ⟨fun c hc => ?_, fun q hq => ?_, fun q r hq hr hn he => ?_, fun q c hq hc => ?_, ?_, ?_, ?_, ?_⟩
  · rw [sm _ (by omega)]; exact h1 c hc
  · rw [sm (10 + q) (by omega), sm (20 + q) (by omega), sm (30 + q) (by omega), sm (40 + q) (by omega), sm (50 + q) (by omega)]; exact h2 q hq
  · rw [sm _ (by omega), sm _ (by omega)] at he
    rw [sm _ (by omega)]
    exact h3 q r hq hr hn he
  · rw [sm _ (by omega)]; exact h4 q c hq hc
  · rw [sm _ (by omega)]; exact h5
  · rw [uz_eq]; omega
  · rw [sm _ (by omega)]; exact h7
  · rw [sm _ (by omega), zSum_out (by omega), zSum_out (by omega)]; exact h8
theorem NOK_seat {T : Nat → Nat → Int} {ns np : Nat} {k : Nat → Int} {M s : Int} {v : Nat → Int} {p : Nat} (hT : TOK T ns np) (h : NOK T ns np k M v) (hp : p < np) (hs : s = -1 ∨ (0 ≤ s ∧ s < ns ∧ ∀ q, q < np → q ≠ p → v (20 + q) ≠ s)) : NOK T ns np k M (uz v (20 + p) s) := by
  obtain ⟨t1, t2, -⟩ := hT
  obtain ⟨h1, h2, h3, h4, h5, h6, h7, h8⟩ := h
  have sm : ∀ j, j ≠ 20 + p → uz v (20 + p) s j = v j := fun j q => uz_ne q
  refine ⟨fun c hc => ?_, fun q hq => ?_, fun q r hq hr hn he => ?_, fun q c hq hc => ?_, ?_, ?_, ?_, ?_⟩
  · rw [sm _ (by omega)]; exact h1 c hc
  · rw [sm (10 + q) (by omega), sm (30 + q) (by omega), sm (40 + q) (by omega), sm (50 + q) (by omega)]
    have a := h2 q hq
    refine ⟨a.1, ?_, a.2.2⟩
    by_cases e : q = p
    · subst e; rw [uz_eq]; omega
    · rw [sm _ (by omega)]; exact a.2.1
  · by_cases e : q = p
    · subst e
      rw [uz_eq] at he ⊢
      rw [sm _ (by omega)] at he
      rcases hs with hs | hs
      · exact hs
      · exact absurd he.symm (hs.2.2 r hr (by omega))
    · rw [sm (20 + q) (by omega)] at he ⊢
      by_cases e2 : r = p
      · subst e2
        rw [uz_eq] at he
        rcases hs with hs | hs
        · omega
        · exact absurd he (hs.2.2 q hq e)
      · rw [sm _ (by omega)] at he
        exact h3 q r hq hr hn he
  · rw [sm _ (by omega)]; exact h4 q c hq hc
  · rw [sm _ (by omega)]; exact h5
  · rw [sm _ (by omega)]; exact h6
  · rw [sm _ (by omega)]; exact h7
  · rw [sm _ (by omega), zSum_out (by omega), zSum_out (by omega)]; exact h8
theorem zFirst_none_iff {v : Nat → Int} {b n : Nat} : zFirst v b n = none ↔ zEmpty v b n := by
  rcases zFirst_cases v b n with ⟨h1, h2⟩ | ⟨p, h1, h2, h3, h4⟩
  · exact ⟨fun _ => h1, fun _ => h2⟩
  · rw [h2]
    exact ⟨fun z => absurd z (Option.some_ne_none p), fun z => absurd z (zEmpty_not h3 h1)⟩
theorem zDv_in {s n : Int} (hs : 0 ≤ s) (hn : 0 < n) : 0 ≤ zDv s n ∧ zDv s n < n := ⟨Int.emod_nonneg _ (by omega), Int.emod_lt_of_pos _ hn⟩
theorem zWan_ok {T : Nat → Nat → Int} {ns np : Nat} {k : Nat → Int} {M : Int} {v : Nat → Int} {p : Nat} (hT : TOK T ns np) (h : NOK T ns np k M v) (hp : p < np) : NOK T ns np k M (zWan ns np p v) := by
  have t1 := hT.1
  have t2 := hT.2.1
  have d1 := zDr_in (v 133)
  have d2 := zDr_in (zDr (v 133))
  have n1 := NOK_seed hT h d1.1 d1.2
  unfold zWan
  split
  · have n2 := NOK_seat (s := -1) hT n1 hp (Or.inl rfl)
    have n3 := NOK_seed hT n2 d2.1 d2.2
    dsimp only
    have dv := zDv_in (s := zDr (zDr (v 133))) (n := ns + 1) d2.1 (by omega)
    refine NOK_seat hT n3 hp ?_
    split
    · rename_i hq
      right
      refine ⟨dv.1, hq.1, fun q hq1 hq2 => ?_⟩
      have := zEmpty_iff.mp (zFirst_none_iff.mp hq.2) q hq1
      rwa [Int.toNat_of_nonneg dv.1] at this
    · exact Or.inl rfl
  · exact n1
theorem zWans_ok {T : Nat → Nat → Int} {ns np : Nat} {k : Nat → Int} {M : Int} {v : Nat → Int} (hT : TOK T ns np) (h : NOK T ns np k M v) : ∀ p, p ≤ np → NOK T ns np k M (zWans ns np v p)
  | 0, _ => h
  | p + 1, hp => zWan_ok hT (zWans_ok hT h p (by omega)) (by omega)
theorem zDrift_ok {T : Nat → Nat → Int} {ns np : Nat} {M : Int} {v : Nat → Int} (hT : TOK T ns np) (h : NOK T ns np (fun _ => 2 * M) M v) : ∀ n : Nat, NOK T ns np (fun _ => 2 * (M + n)) (M + n) (zDrift T ns np v n)
  | 0 => by simpa [zDrift] using h
  | n + 1 => by
    have a := zPass_ok hT (zWans_ok hT (zDrift_ok hT h n) np (Nat.le_refl np))
    have e : M + ((n + 1 : Nat) : Int) = M + n + 1 := by omega
    rw [e]
    exact a
def maxZ (x y : Int) : Int := if x < y then y else x
def zGift (T : Nat → Nat → Int) (v : Nat → Int) (p : Nat) (m : Int) : Nat → Int
  | 0 => 0
  | q + 1 => zGift T v p m q + if q = p then 0 else maxZ 0 (v (10 + q) - (if T 3 q = 0 then 0 else T 3 q + m * frostZ (T 2 q) (T 4 0) (T 4 1) false))
def aGift (T : Nat → Nat → Int) (np : Nat) (v : Nat → Int) (p m : Int) : Int := if 0 ≤ p ∧ p < np then (if 0 ≤ m ∧ m ≤ 99 then zGift T v p.toNat m np else -1000000002) else -1000000001
/-- how many minutes nobody is cold, of n at most -/
noncomputable def zSafe (T : Nat → Nat → Int) (ns np : Nat) (v : Nat → Int) : Nat → Nat
  | 0 => 0
  | n + 1 => if zSafe T ns np v n = n ∧ zCs T (zGo T ns np v (n + 1)) np = 0 then n + 1 else zSafe T ns np v n
theorem zSafe_stop {T : Nat → Nat → Int} {ns np : Nat} {v : Nat → Int} {i : Nat} (h : zSafe T ns np v i = i) (hc : zCs T (zGo T ns np v (i + 1)) np ≠ 0) : ∀ n, i < n → zSafe T ns np v n = i
  | 0, q => absurd q (Nat.not_lt_zero _)
  | n + 1, q => by
    rw [zSafe]
    rcases Nat.lt_or_ge i n with l | l
    · have e := zSafe_stop h hc n l
      rw [if_neg (fun z => by have := z.1; omega), e]
    · have e : i = n := by omega
      subst e
      rw [if_neg (fun z => hc z.2), h]
/-- how many of the book's first n entries are right -/
noncomputable def zJudge (T : Nat → Nat → Int) (ns np : Nat) (v : Nat → Int) (bs bh : Nat → Int32) : Nat → Nat
  | 0 => 0
  | n + 1 => if zJudge T ns np v bs bh n = n ∧ zGo T ns np v n (bs n).toInt.toNat = (bh n).toInt then n + 1 else zJudge T ns np v bs bh n
theorem zJudge_stop {T : Nat → Nat → Int} {ns np : Nat} {v : Nat → Int} {bs bh : Nat → Int32} {i : Nat} (h : zJudge T ns np v bs bh i = i) (hc : zGo T ns np v i (bs i).toInt.toNat ≠ (bh i).toInt) : ∀ n, i < n → zJudge T ns np v bs bh n = i
  | 0, q => absurd q (Nat.not_lt_zero _)
  | n + 1, q => by
    rw [zJudge]
    rcases Nat.lt_or_ge i n with l | l
    · have e := zJudge_stop h hc n l
      rw [if_neg (fun z => by have := z.1; omega), e]
    · have e : i = n := by omega
      subst e
      rw [if_neg (fun z => hc z.2), h]
noncomputable def aJudge (T : Nat → Nat → Int) (ns np : Nat) (v : Nat → Int) (bs bh : Nat → Int32) (en : Nat) : Int := if zJudge T ns np v bs bh en = en then -1 else zJudge T ns np v bs bh en
theorem mul99 {a b : Int} (h1 : 0 ≤ a) (h2 : a ≤ 99) (h3 : 0 ≤ b) (h4 : b ≤ 99) : 0 ≤ a * b ∧ a * b ≤ 9801 := by
  refine ⟨Int.mul_nonneg h1 h3, ?_⟩
  have := Int.mul_le_mul h2 h4 h3 (by omega)
  omega
theorem maxZ_bd {d : Int} (h : d ≤ 9999) : 0 ≤ maxZ 0 d ∧ maxZ 0 d ≤ 9999 := by unfold maxZ; split <;> omega
theorem zGift_bd {T : Nat → Nat → Int} {ns np : Nat} {k : Nat → Int} {M m : Int} {v : Nat → Int} {p : Nat} (hT : TOK T ns np) (h : NOK T ns np k M v) (m0 : 0 ≤ m) (m1 : m ≤ 99) : ∀ n, n ≤ np → 0 ≤ zGift T v p m n ∧ zGift T v p m n ≤ n * 9999
  | 0, _ => ⟨Int.le_refl 0, by simp [zGift]⟩
  | n + 1, hn => by
    have ih := zGift_bd (p := p) hT h m0 m1 n (by omega)
    have a := (h.2.1 n (by omega)).1
    have b := hT.2.2.2.1 n (by omega)
    have t5 := hT.2.2.2.2
    have fz := frostZ_bd (k := T 2 n) (s := false) t5.1 t5.2.1 t5.2.2.1 t5.2.2.2.1
    have mm := mul99 m0 m1 fz.1 fz.2
    rw [zGift]
    have c := maxZ_bd (d := v (10 + n) - (if T 3 n = 0 then 0 else T 3 n + m * frostZ (T 2 n) (T 4 0) (T 4 1) false)) (by split <;> omega)
    split
    · omega
    · omega
