/-! the text: bytes B 0 .. B (L - 1) -/
def runF (P : Nat → Bool) (L : Nat) : Nat → Nat → Nat
  | 0, a => a
  | n + 1, a => if a < L ∧ P a = true then runF P L n (a + 1) else a
def run (P : Nat → Bool) (L a : Nat) : Nat := runF P L (L - a) a
theorem run_go {P : Nat → Bool} {L a : Nat} (h : a < L) (hp : P a = true) : run P L (a + 1) = run P L a := by
  unfold run
  rw [show L - a = (L - (a + 1)) + 1 by omega, runF, if_pos ⟨h, hp⟩]
theorem run_end {P : Nat → Bool} {L a : Nat} (h : ¬ (a < L ∧ P a = true)) : run P L a = a := by
  unfold run
  cases L - a with
  | zero => rfl
  | succ n => rw [runF, if_neg h]
theorem runF_le {P : Nat → Bool} {L : Nat} : ∀ n a, a ≤ runF P L n a
  | 0, a => Nat.le_refl a
  | n + 1, a => by
    rw [runF]
    split
    · have := runF_le (P := P) (L := L) n (a + 1)
      omega
    · exact Nat.le_refl a
theorem runF_L {P : Nat → Bool} {L : Nat} : ∀ n a, a ≤ L → runF P L n a ≤ L
  | 0, a, h => h
  | n + 1, a, h => by
    rw [runF]
    split
    · rename_i q
      exact runF_L n (a + 1) (by omega)
    · exact h
theorem runF_all {P : Nat → Bool} {L : Nat} : ∀ n a i, a ≤ i → i < runF P L n a → P i = true
  | 0, a, i, h1, h2 => by rw [runF] at h2; omega
  | n + 1, a, i, h1, h2 => by
    rw [runF] at h2
    by_cases q : a < L ∧ P a = true
    · rw [if_pos q] at h2
      by_cases e : i = a
      · rw [e]; exact q.2
      · exact runF_all n (a + 1) i (by omega) h2
    · rw [if_neg q] at h2; omega
theorem runF_stop {P : Nat → Bool} {L : Nat} : ∀ n a, L - a ≤ n → ¬ (runF P L n a < L ∧ P (runF P L n a) = true)
  | 0, a, h => by rw [runF]; omega
  | n + 1, a, h => by
    rw [runF]
    by_cases q : a < L ∧ P a = true
    · rw [if_pos q]; exact runF_stop n (a + 1) (by omega)
    · rw [if_neg q]; exact q
theorem run_stop {P : Nat → Bool} {L a : Nat} : ¬ (run P L a < L ∧ P (run P L a) = true) := runF_stop _ _ (Nat.le_refl _)
theorem run_run {P : Nat → Bool} {L a : Nat} : run P L (run P L a) = run P L a := run_end run_stop
theorem run_le {P : Nat → Bool} {L a : Nat} : a ≤ run P L a := runF_le _ _
theorem run_L {P : Nat → Bool} {L a : Nat} (h : a ≤ L) : run P L a ≤ L := runF_L _ _ h
theorem run_all {P : Nat → Bool} {L a i : Nat} (h1 : a ≤ i) (h2 : i < run P L a) : P i = true := runF_all _ _ i h1 h2
def isBl (B : Nat → Int) : Nat → Bool := fun i => decide (B i = 32)
def isLe (B : Nat → Int) : Nat → Bool := fun i => decide (97 ≤ B i ∧ B i ≤ 122)
def isDi (B : Nat → Int) : Nat → Bool := fun i => decide (48 ≤ B i ∧ B i ≤ 57)
def sk (B : Nat → Int) (L a : Nat) : Nat := run (isBl B) L a
def wE (B : Nat → Int) (L a : Nat) : Nat := run (isLe B) L a
def dE (B : Nat → Int) (L a : Nat) : Nat := run (isDi B) L a
def sg (x : Int) : Int := if x < 128 then x else x - 256
/-- the class's text, the reference's -/
def CX (B : Nat → Int) (L : Nat) (xb : Nat → Int32) (xl : Int32) : Prop := L ≤ 400 ∧ xl = nI L ∧ ∀ i, i < L → 0 ≤ B i ∧ B i ≤ 255 ∧ (xb i).toInt = sg (B i)
def MX (B : Nat → Int) (L : Nat) (tx : Nat → Int32) (ts : Int32) : Prop := L ≤ 400 ∧ ts = nI L ∧ ∀ i, i < L → 0 ≤ B i ∧ B i ≤ 255 ∧ (tx i).toInt = B i
def vaZ (B : Nat → Int) (t : Nat) : Nat → Int
  | 0 => 0
  | k + 1 => 10 * vaZ B t k + (B (t + k) - 48)
def p10Z : Nat → Int
  | 0 => 1
  | k + 1 => 10 * p10Z k
theorem vaZ_bd {B : Nat → Int} {t : Nat} : ∀ k, (∀ i, i < k → isDi B (t + i) = true) → 0 ≤ vaZ B t k ∧ vaZ B t k ≤ p10Z k - 1
  | 0, _ => ⟨Int.le_refl _, Int.le_refl _⟩
  | k + 1, h => by
    have a := vaZ_bd k (fun i hi => h i (by omega))
    have b := of_decide_eq_true (h k (by omega))
    rw [vaZ, p10Z]
    omega
theorem p10_4 : ∀ k, k ≤ 4 → p10Z k ≤ 10000 := by decide
theorem vaZ_4 {B : Nat → Int} {t k : Nat} (hk : k ≤ 4) (h : ∀ i, i < k → isDi B (t + i) = true) : 0 ≤ vaZ B t k ∧ vaZ B t k ≤ 9999 := by
  have a := vaZ_bd k h
  have b := p10_4 k hk
  omega
def weqF (B : Nat → Int) (w i : Nat) : Nat → Bool
  | 0 => true
  | k + 1 => weqF B w i k && decide (B (w + k) = ((stB.getD i []).getD k 0).toInt)
def wIs (B : Nat → Int) (w e i : Nat) : Bool := decide (e - w = stL.getD i 0) && weqF B w i (stL.getD i 0)
theorem weqF_no {B : Nat → Int} {w i k : Nat} (h : B (w + k) ≠ ((stB.getD i []).getD k 0).toInt) : ∀ n, k < n → weqF B w i n = false
  | 0, q => absurd q (Nat.not_lt_zero _)
  | n + 1, q => by
    rw [weqF]
    by_cases e : k = n
    · subst e; rw [decide_eq_false h, Bool.and_false]
    · rw [weqF_no h n (by omega), Bool.false_and]
/-! reading: a fault (its number, its byte), or what was read -/
abbrev Flt : Type := Nat × Nat
def bnd {α β : Type} (x : Flt ⊕ α) (f : α → Flt ⊕ β) : Flt ⊕ β :=
  match x with
  | .inl e => .inl e
  | .inr v => f v
theorem bnd_l {α β : Type} {e : Flt} {f : α → Flt ⊕ β} : bnd (.inl e) f = .inl e := rfl
theorem bnd_r {α β : Type} {v : α} {f : α → Flt ⊕ β} : bnd (.inr v) f = f v := rfl
def nuR (B : Nat → Int) (L : Nat) (lo hi : Int) (a : Nat) : Flt ⊕ (Nat × Nat × Int) :=
  if dE B L (sk B L a) = sk B L a then .inl (1, sk B L a)
  else if 4 < dE B L (sk B L a) - sk B L a ∨ ¬ (lo ≤ vaZ B (sk B L a) (dE B L (sk B L a) - sk B L a) ∧ vaZ B (sk B L a) (dE B L (sk B L a) - sk B L a) ≤ hi) then .inl (2, sk B L a)
  else .inr (dE B L (sk B L a), sk B L a, vaZ B (sk B L a) (dE B L (sk B L a) - sk B L a))
def smR (B : Nat → Int) (L a : Nat) : Flt ⊕ Nat := if sk B L a < L ∧ B (sk B L a) = 59 then .inr (sk B L a + 1) else .inl (1, sk B L a)
def kdW (B : Nat → Int) (w e : Nat) : Int := if wIs B w e 4 = true then 0 else if wIs B w e 5 = true then 1 else if wIs B w e 6 = true then 2 else if wIs B w e 7 = true then 3 else if wIs B w e 8 = true then 4 else -1
def kiR (B : Nat → Int) (L a : Nat) : Flt ⊕ (Nat × Int) :=
  if kdW B (sk B L a) (wE B L (sk B L a)) < 0 then .inl (1, sk B L a) else .inr (wE B L (sk B L a), kdW B (sk B L a) (wE B L (sk B L a)))
/-- a stone's numbers: size, part, heat -/
def stN (B : Nat → Int) (L ns w a : Nat) : Flt ⊕ (Nat × Int × Int × Int) :=
  if 9 ≤ ns then .inl (3, w)
  else bnd (nuR B L 1 9999 a) fun r1 => bnd (nuR B L 2 999 r1.1) fun r2 => bnd (nuR B L 0 9999 r2.1) fun r3 => if r1.2.2 < r3.2.2 then .inl (4, r3.2.1) else .inr (r3.1, r1.2.2, r2.2.2, r3.2.2)
/-- a person's: kind, warmth, need -/
def peN (B : Nat → Int) (L np w a : Nat) : Flt ⊕ (Nat × Int × Int × Int) :=
  if 8 ≤ np then .inl (3, w)
  else bnd (kiR B L a) fun r1 => bnd (nuR B L 0 9999 r1.1) fun r2 => bnd (nuR B L 0 9999 r2.1) fun r3 => .inr (r3.1, r1.2, r2.2.2, r3.2.2)
def frN (B : Nat → Int) (L : Nat) (ff : Bool) (w a : Nat) : Flt ⊕ (Nat × Int × Int) :=
  if ff = true then .inl (3, w) else bnd (nuR B L 0 99 a) fun r1 => bnd (nuR B L 0 99 r1.1) fun r2 => .inr (r2.1, r1.2.2, r2.2.2)
def fiN (B : Nat → Int) (L : Nat) (fn : Bool) (w a : Nat) : Flt ⊕ (Nat × Int) :=
  if fn = true then .inl (3, w) else bnd (nuR B L 0 99 a) fun r1 => .inr (r1.1, r1.2.2)
/-- behind it ';' -/
def smc {α : Type} (B : Nat → Int) (L : Nat) (x : Flt ⊕ (Nat × α)) : Flt ⊕ (Nat × α) := bnd x fun r => bnd (smR B L r.1) fun a => .inr (a, r.2)
def uT (T : Nat → Nat → Int) (i j : Nat) (x : Int) : Nat → Nat → Int := fun p q => if p = i ∧ q = j then x else T p q
/-- stones, persons, what is told of them, whether frost and fine were told -/
abbrev PTn : Type := Nat × Nat × (Nat → Nat → Int) × Bool × Bool
def stC (B : Nat → Int) (L w e : Nat) (t : PTn) : Flt ⊕ (Nat × PTn) := bnd (stN B L t.1 w e) fun r => .inr (r.1, t.1 + 1, t.2.1, uT (uT (uT t.2.2.1 0 t.1 r.2.1) 1 t.1 r.2.2.1) 5 t.1 r.2.2.2, t.2.2.2)
def peC (B : Nat → Int) (L w e : Nat) (t : PTn) : Flt ⊕ (Nat × PTn) := bnd (peN B L t.2.1 w e) fun r => .inr (r.1, t.1, t.2.1 + 1, uT (uT (uT t.2.2.1 2 t.2.1 r.2.1) 6 t.2.1 r.2.2.1) 3 t.2.1 r.2.2.2, t.2.2.2)
def frC (B : Nat → Int) (L w e : Nat) (t : PTn) : Flt ⊕ (Nat × PTn) := bnd (frN B L t.2.2.2.1 w e) fun r => .inr (r.1, t.1, t.2.1, uT (uT t.2.2.1 4 0 r.2.1) 4 1 r.2.2, true, t.2.2.2.2)
def fiC (B : Nat → Int) (L w e : Nat) (t : PTn) : Flt ⊕ (Nat × PTn) := bnd (fiN B L t.2.2.2.2 w e) fun r => .inr (r.1, t.1, t.2.1, uT t.2.2.1 4 2 r.2, t.2.2.2.1, true)
def clN (B : Nat → Int) (L w e : Nat) (t : PTn) : Flt ⊕ (Nat × PTn) :=
  if wIs B w e 0 = true then stC B L w e t
  else if wIs B w e 1 = true then peC B L w e t
  else if wIs B w e 2 = true then frC B L w e t
  else if wIs B w e 3 = true then fiC B L w e t
  else .inl (1, w)
def clR (B : Nat → Int) (L a : Nat) (t : PTn) : Flt ⊕ (Nat × PTn) := smc B L (clN B L (sk B L a) (wE B L (sk B L a)) t)
def paF (B : Nat → Int) (L : Nat) : Nat → Nat → PTn → Flt ⊕ PTn
  | 0, _, t => .inr t
  | n + 1, a, t => if sk B L a < L then bnd (clR B L a t) fun r => paF B L n r.1 r.2 else .inr t
def paR (B : Nat → Int) (L a : Nat) (t : PTn) : Flt ⊕ PTn := paF B L (L + 1 - a) a t
def T0n : Nat → Nat → Int := fun p q => if p = 4 ∧ q = 0 then 3 else if p = 4 ∧ q = 1 then 1 else 0
def paT (B : Nat → Int) (L : Nat) : Flt ⊕ PTn := paR B L 0 (0, 0, T0n, false, false)
section PA
variable {B : Nat → Int} {L a : Nat}
theorem sk_le : a ≤ sk B L a := run_le
theorem sk_L (h : a ≤ L) : sk B L a ≤ L := run_L h
theorem wE_le : a ≤ wE B L a := run_le
theorem wE_L (h : a ≤ L) : wE B L a ≤ L := run_L h
theorem dE_le : a ≤ dE B L a := run_le
theorem dE_L (h : a ≤ L) : dE B L a ≤ L := run_L h
theorem nuR_pos {lo hi : Int} {e t : Nat} {v : Int} (h : nuR B L lo hi a = .inr (e, t, v)) (ha : a ≤ L) : a ≤ e ∧ e ≤ L ∧ lo ≤ v ∧ v ≤ hi := by
  unfold nuR at h
  have s1 := sk_le (B := B) (L := L) (a := a)
  have s2 := sk_L (B := B) ha
  have d1 := dE_le (B := B) (L := L) (a := sk B L a)
  have d2 := dE_L (B := B) s2
  split at h
  · cases h
  · split at h
    · cases h
    · rename_i q
      cases h
      omega
theorem smR_pos {e : Nat} (h : smR B L a = .inr e) (ha : a ≤ L) : a < e ∧ e ≤ L := by
  unfold smR at h
  have s1 := sk_le (B := B) (L := L) (a := a)
  split at h
  · cases h; omega
  · cases h
theorem bnd_inr {α β : Type} {x : Flt ⊕ α} {f : α → Flt ⊕ β} {b : β} (h : bnd x f = .inr b) : ∃ v, x = .inr v ∧ f v = .inr b := by
  cases x with
  | inl e => exact absurd h (by intro z; cases z)
  | inr v => exact ⟨v, rfl, h⟩
theorem stN_pos {ns w e : Nat} {r : Int × Int × Int} (h : stN B L ns w a = .inr (e, r)) (ha : a ≤ L) : a ≤ e ∧ e ≤ L ∧ ns < 9 ∧ 1 ≤ r.1 ∧ r.1 ≤ 9999 ∧ 2 ≤ r.2.1 ∧ r.2.1 ≤ 999 ∧ 0 ≤ r.2.2 ∧ r.2.2 ≤ r.1 := by
  unfold stN at h
  split at h
  · cases h
  · obtain ⟨⟨a1, t1, v1⟩, h1, h⟩ := bnd_inr h
    obtain ⟨⟨a2, t2, v2⟩, h2, h⟩ := bnd_inr h
    obtain ⟨⟨a3, t3, v3⟩, h3, h⟩ := bnd_inr h
    have p1 := nuR_pos h1 ha
    have p2 := nuR_pos h2 p1.2.1
    have p3 := nuR_pos h3 p2.2.1
    dsimp only at h
    split at h
    · cases h
    · cases h
      dsimp only
      omega
theorem kdW_bd {w e : Nat} : -1 ≤ kdW B w e ∧ kdW B w e ≤ 4 := by
  unfold kdW
  repeat (first | omega | split)
theorem peN_pos {np w e : Nat} {r : Int × Int × Int} (h : peN B L np w a = .inr (e, r)) (ha : a ≤ L) : a ≤ e ∧ e ≤ L ∧ np < 8 ∧ 0 ≤ r.1 ∧ r.1 ≤ 4 ∧ 0 ≤ r.2.1 ∧ r.2.1 ≤ 9999 ∧ 0 ≤ r.2.2 ∧ r.2.2 ≤ 9999 := by
  unfold peN at h
  split at h
  · cases h
  · obtain ⟨⟨a1, v1⟩, h1, h⟩ := bnd_inr h
    obtain ⟨⟨a2, t2, v2⟩, h2, h⟩ := bnd_inr h
    obtain ⟨⟨a3, t3, v3⟩, h3, h⟩ := bnd_inr h
    have hk := kdW_bd (B := B) (w := sk B L a) (e := wE B L (sk B L a))
    have s1 := sk_le (B := B) (L := L) (a := a)
    have s2 := wE_le (B := B) (L := L) (a := sk B L a)
    have s3 := wE_L (B := B) (sk_L (B := B) ha)
    unfold kiR at h1
    split at h1
    · cases h1
    · cases h1
      have p2 := nuR_pos h2 s3
      have p3 := nuR_pos h3 p2.2.1
      cases h
      dsimp only at p2 p3 ⊢
      omega
theorem frN_pos {ff : Bool} {w e : Nat} {r : Int × Int} (h : frN B L ff w a = .inr (e, r)) (ha : a ≤ L) : a ≤ e ∧ e ≤ L ∧ 0 ≤ r.1 ∧ r.1 ≤ 99 ∧ 0 ≤ r.2 ∧ r.2 ≤ 99 := by
  unfold frN at h
  split at h
  · cases h
  · obtain ⟨⟨a1, t1, v1⟩, h1, h⟩ := bnd_inr h
    obtain ⟨⟨a2, t2, v2⟩, h2, h⟩ := bnd_inr h
    have p1 := nuR_pos h1 ha
    have p2 := nuR_pos h2 p1.2.1
    cases h
    dsimp only
    omega
theorem fiN_pos {fn : Bool} {w e : Nat} {r : Int} (h : fiN B L fn w a = .inr (e, r)) (ha : a ≤ L) : a ≤ e ∧ e ≤ L ∧ 0 ≤ r ∧ r ≤ 99 := by
  unfold fiN at h
  split at h
  · cases h
  · obtain ⟨⟨a1, t1, v1⟩, h1, h⟩ := bnd_inr h
    have p1 := nuR_pos h1 ha
    cases h
    dsimp only
    omega
theorem uT_ne {T : Nat → Nat → Int} {i j p q : Nat} {x : Int} (h : ¬ (p = i ∧ q = j)) : uT T i j x p q = T p q := if_neg h
theorem uT_at {T : Nat → Nat → Int} {i j : Nat} {x : Int} : uT T i j x i j = x := if_pos ⟨rfl, rfl⟩
/-- a town that is being told -/
def POK (t : PTn) : Prop := TOK t.2.2.1 t.1 t.2.1 ∧ (∀ b, b < t.1 → 0 ≤ t.2.2.1 5 b ∧ t.2.2.1 5 b ≤ t.2.2.1 0 b) ∧ (∀ p, p < t.2.1 → 0 ≤ t.2.2.1 6 p ∧ t.2.2.1 6 p ≤ 9999)
theorem clN_ok {w e a2 : Nat} {t t2 : PTn} (h : clN B L w e t = .inr (a2, t2)) (hw : e ≤ L) (hp : POK t) : e ≤ a2 ∧ a2 ≤ L ∧ POK t2 := by
  obtain ⟨ns, np, T, ff, fn⟩ := t
  obtain ⟨⟨k1, k2, k3, k4, k5⟩, k6, k7⟩ := hp
  dsimp only at k1 k2 k3 k4 k5 k6 k7
  unfold clN stC peC frC fiC at h
  dsimp only at h
  split at h
  · obtain ⟨⟨e2, S, K, H⟩, h1, h⟩ := bnd_inr h
    have p := stN_pos h1 hw
    cases h
    dsimp only at p
    refine ⟨p.1, p.2.1, ⟨show ns + 1 ≤ 9 by omega, k2, fun b hb => ?_, fun q hq => ?_, ?_⟩, fun b hb => ?_, fun q hq => ?_⟩
    · dsimp only
      rw [uT_ne (by omega), uT_ne (by omega), uT_ne (p := 1) (i := 5) (by omega)]
      by_cases e : b = ns
      · subst e; rw [uT_at, uT_at]; omega
      · rw [uT_ne (by omega), uT_ne (by omega), uT_ne (by omega)]; exact k3 b (by dsimp only at hb; omega)
    · dsimp only
      rw [uT_ne (by omega), uT_ne (by omega), uT_ne (by omega), uT_ne (by omega), uT_ne (by omega), uT_ne (by omega)]; exact k4 q hq
    · dsimp only
      rw [uT_ne (p := 4) (q := 0) (by omega), uT_ne (p := 4) (q := 0) (by omega), uT_ne (p := 4) (q := 0) (by omega), uT_ne (p := 4) (q := 1) (by omega), uT_ne (p := 4) (q := 1) (by omega), uT_ne (p := 4) (q := 1) (by omega), uT_ne (p := 4) (q := 2) (by omega), uT_ne (p := 4) (q := 2) (by omega), uT_ne (p := 4) (q := 2) (by omega)]; exact k5
    · dsimp only at hb ⊢
      by_cases e : b = ns
      · subst e; rw [uT_at, uT_ne (p := 0) (by omega), uT_ne (p := 0) (by omega), uT_at]; omega
      · rw [uT_ne (p := 5) (by omega), uT_ne (p := 5) (by omega), uT_ne (p := 5) (by omega), uT_ne (p := 0) (by omega), uT_ne (p := 0) (by omega), uT_ne (p := 0) (by omega)]; exact k6 b (by omega)
    · dsimp only
      rw [uT_ne (by omega), uT_ne (by omega), uT_ne (by omega)]; exact k7 q hq
  · split at h
    · obtain ⟨⟨e2, K, W, N⟩, h1, h⟩ := bnd_inr h
      have p := peN_pos h1 hw
      cases h
      dsimp only at p
      refine ⟨p.1, p.2.1, ⟨k1, show np + 1 ≤ 8 by omega, fun b hb => ?_, fun q hq => ?_, ?_⟩, fun b hb => ?_, fun q hq => ?_⟩
      · dsimp only
        rw [uT_ne (by omega), uT_ne (by omega), uT_ne (by omega), uT_ne (by omega), uT_ne (by omega), uT_ne (by omega)]; exact k3 b hb
      · dsimp only at hq ⊢
        by_cases e : q = np
        · subst e; rw [uT_ne (p := 2) (by omega), uT_ne (p := 2) (by omega), uT_at, uT_at]; omega
        · rw [uT_ne (p := 2) (by omega), uT_ne (p := 2) (by omega), uT_ne (p := 2) (by omega), uT_ne (p := 3) (by omega), uT_ne (p := 3) (by omega), uT_ne (p := 3) (by omega)]; exact k4 q (by omega)
      · dsimp only
        rw [uT_ne (p := 4) (q := 0) (by omega), uT_ne (p := 4) (q := 0) (by omega), uT_ne (p := 4) (q := 0) (by omega), uT_ne (p := 4) (q := 1) (by omega), uT_ne (p := 4) (q := 1) (by omega), uT_ne (p := 4) (q := 1) (by omega), uT_ne (p := 4) (q := 2) (by omega), uT_ne (p := 4) (q := 2) (by omega), uT_ne (p := 4) (q := 2) (by omega)]; exact k5
      · dsimp only
        rw [uT_ne (by omega), uT_ne (by omega), uT_ne (by omega), uT_ne (by omega), uT_ne (by omega), uT_ne (by omega)]; exact k6 b hb
      · dsimp only at hq ⊢
        by_cases e : q = np
        · subst e; rw [uT_ne (p := 6) (by omega), uT_at]; omega
        · rw [uT_ne (p := 6) (by omega), uT_ne (p := 6) (by omega), uT_ne (p := 6) (by omega)]; exact k7 q (by omega)
    · split at h
      · obtain ⟨⟨e2, u, d⟩, h1, h⟩ := bnd_inr h
        have p := frN_pos h1 hw
        cases h
        dsimp only at p
        refine ⟨p.1, p.2.1, ⟨k1, k2, fun b hb => ?_, fun q hq => ?_, ?_⟩, fun b hb => ?_, fun q hq => ?_⟩
        · dsimp only
          rw [uT_ne (by omega), uT_ne (by omega), uT_ne (by omega), uT_ne (by omega)]; exact k3 b hb
        · dsimp only
          rw [uT_ne (by omega), uT_ne (by omega), uT_ne (by omega), uT_ne (by omega)]; exact k4 q hq
        · dsimp only
          rw [uT_ne (p := 4) (q := 0) (by omega), uT_at, uT_at, uT_ne (p := 4) (q := 2) (by omega), uT_ne (p := 4) (q := 2) (by omega)]; omega
        · dsimp only
          rw [uT_ne (by omega), uT_ne (by omega), uT_ne (by omega), uT_ne (by omega)]; exact k6 b hb
        · dsimp only
          rw [uT_ne (by omega), uT_ne (by omega)]; exact k7 q hq
      · split at h
        · obtain ⟨⟨e2, c⟩, h1, h⟩ := bnd_inr h
          have p := fiN_pos h1 hw
          cases h
          refine ⟨p.1, p.2.1, ⟨k1, k2, fun b hb => ?_, fun q hq => ?_, ?_⟩, fun b hb => ?_, fun q hq => ?_⟩
          · dsimp only
            rw [uT_ne (by omega), uT_ne (by omega)]; exact k3 b hb
          · dsimp only
            rw [uT_ne (by omega), uT_ne (by omega)]; exact k4 q hq
          · dsimp only
            rw [uT_ne (p := 4) (q := 0) (by omega), uT_ne (p := 4) (q := 1) (by omega), uT_at]; omega
          · dsimp only
            rw [uT_ne (by omega), uT_ne (by omega)]; exact k6 b hb
          · dsimp only
            rw [uT_ne (by omega)]; exact k7 q hq
        · cases h
theorem clR_ok {a2 : Nat} {t t2 : PTn} (h : clR B L a t = .inr (a2, t2)) (ha : a ≤ L) (hp : POK t) : a < a2 ∧ a2 ≤ L ∧ POK t2 := by
  unfold clR smc at h
  obtain ⟨⟨e2, t3⟩, h1, h⟩ := bnd_inr h
  obtain ⟨a3, h2, h⟩ := bnd_inr h
  have s1 := sk_le (B := B) (L := L) (a := a)
  have s2 := wE_le (B := B) (L := L) (a := sk B L a)
  have s3 := wE_L (B := B) (sk_L (B := B) ha)
  have c := clN_ok h1 s3 hp
  have p := smR_pos h2 c.2.1
  cases h
  exact ⟨by dsimp only at p; omega, p.2, c.2.2⟩
theorem pa_end {t : PTn} (h : ¬ sk B L a < L) : paR B L a t = .inr t := by
  unfold paR
  cases L + 1 - a with
  | zero => rfl
  | succ n => rw [paF, if_neg h]
theorem pa_flt {t : PTn} {x : Flt} (ha : a ≤ L) (h : sk B L a < L) (hc : clR B L a t = .inl x) : paR B L a t = .inl x := by
  unfold paR
  rw [show L + 1 - a = (L - a) + 1 by omega, paF, if_pos h, hc]
  rfl
theorem paF_up {n : Nat} : ∀ {m a : Nat} {t : PTn}, POK t → a ≤ L → L + 1 - a ≤ m → m ≤ n → paF B L m a t = paF B L (L + 1 - a) a t := by
  induction n with
  | zero => intro m a t _ h1 h2 h3; omega
  | succ n ih =>
    intro m a t hp h1 h2 h3
    obtain ⟨k, rfl⟩ : ∃ k, m = k + 1 := ⟨m - 1, by omega⟩
    rw [show L + 1 - a = (L - a) + 1 by omega, paF, paF]
    split
    · cases hc : clR B L a t with
      | inl x => rfl
      | inr r =>
        obtain ⟨a2, t2⟩ := r
        have c := clR_ok hc h1 hp
        show paF B L k a2 t2 = paF B L (L - a) a2 t2
        rw [ih c.2.2 c.2.1 (by omega) (by omega)]
        by_cases e : L - a ≤ n
        · rw [ih (m := L - a) c.2.2 c.2.1 (by omega) e]
        · omega
    · rfl
theorem pa_go {t t2 : PTn} {a2 : Nat} (hp : POK t) (ha : a ≤ L) (h : sk B L a < L) (hc : clR B L a t = .inr (a2, t2)) : paR B L a2 t2 = paR B L a t := by
  have c := clR_ok hc ha hp
  have e : paR B L a t = paF B L (L - a) a2 t2 := by
    unfold paR
    rw [show L + 1 - a = (L - a) + 1 by omega, paF, if_pos h, hc]
    rfl
  rw [e]
  unfold paR
  exact (paF_up (n := L - a) c.2.2 c.2.1 (by omega) (Nat.le_refl _)).symm
theorem paF_ok : ∀ (n : Nat) {a : Nat} {t t2 : PTn}, POK t → a ≤ L → paF B L n a t = .inr t2 → POK t2
  | 0, _, _, _, hp, _, h => by cases h; exact hp
  | n + 1, a, t, t2, hp, ha, h => by
    rw [paF] at h
    split at h
    · obtain ⟨⟨a3, t3⟩, h1, h⟩ := bnd_inr h
      have c := clR_ok h1 ha hp
      exact paF_ok n c.2.2 c.2.1 h
    · cases h; exact hp
theorem POK_0 : POK (0, 0, T0n, false, false) := ⟨⟨by decide, by decide, fun b hb => absurd hb (Nat.not_lt_zero _), fun b hb => absurd hb (Nat.not_lt_zero _), by decide⟩, fun b hb => absurd hb (Nat.not_lt_zero _), fun b hb => absurd hb (Nat.not_lt_zero _)⟩
theorem paT_ok {t : PTn} (h : paT B L = .inr t) : POK t := paF_ok _ POK_0 (Nat.zero_le _) h
theorem clR_sk {t : PTn} : clR B L (sk B L a) t = clR B L a t := by
  unfold clR
  rw [show sk B L (sk B L a) = sk B L a from run_run]
end PA
