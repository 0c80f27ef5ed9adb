/-! what the calls answer, of a row -/
def aTold (T : Nat → Nat → Int) (ns np : Nat) (v : Nat → Int) (ts wr what : Int) : Int :=
  if what = 0 then ns else if what = 1 then np else if what = 2 then ts else if what = 3 then v 132 else if what = 4 then v 134 else if what = 5 then T 4 0 else if what = 6 then T 4 1 else if what = 7 then T 4 2 else if what = 8 then wr else if what = 9 then zSum v 30 np else if what = 10 then zSum v 0 ns + zSum v 10 np else -1000000002
def aStone (T : Nat → Nat → Int) (ns np : Nat) (v : Nat → Int) (b what : Int) : Int :=
  if 0 ≤ b ∧ b < ns then (if what = 0 then T 0 b.toNat else if what = 1 then T 1 b.toNat else if what = 2 then v b.toNat else if what = 3 then (zSitter v b.toNat np).toInt else -1000000002) else -1000000001
def aPerson (T : Nat → Nat → Int) (np : Nat) (v : Nat → Int) (p what : Int) : Int :=
  if 0 ≤ p ∧ p < np then (if what = 0 then T 2 p.toNat else if what = 1 then T 3 p.toNat else if what = 2 then v (10 + p.toNat) else if what = 3 then v (20 + p.toNat) else if what = 4 then v (30 + p.toNat) else if what = 5 then v (40 + p.toNat) else if what = 6 then v (50 + p.toNat) else -1000000002) else -1000000001
def aOwned (ns np : Nat) (v : Nat → Int) (p b : Int) : Int := if (0 ≤ p ∧ p < np) ∧ (0 ≤ b ∧ b < ns) then v (60 + (9 * p.toNat + b.toNat)) else -1000000001
noncomputable def zGo (T : Nat → Nat → Int) (ns np : Nat) (v : Nat → Int) : Nat → Nat → Int
  | 0 => v
  | n + 1 => zPass T ns np (zGo T ns np v n)
theorem zGo_ok {T : Nat → Nat → Int} {ns np : Nat} {M : Int} {v : Nat → Int} (hT : TOK T ns np) (h : NOK T ns np (fun _ => 2 * M) M v) : ∀ n : Nat, NOK T ns np (fun _ => 2 * (M + n)) (M + n) (zGo T ns np v n)
  | 0 => by simpa [zGo] using h
  | n + 1 => by
    have a := zPass_ok hT (zGo_ok hT h n)
    have e : M + ((n + 1 : Nat) : Int) = M + n + 1 := by omega
    rw [e]
    exact a
/-- a number that names a person, or a stone -/
theorem in_nat {x : Int32} {n : Nat} (h : 0 ≤ x.toInt ∧ x.toInt < n) (hn : n < 2 ^ 31) : ∃ i : Nat, i < n ∧ x = nI i ∧ x.toInt = (i : Int) ∧ x.toInt.toNat = i := by
  refine ⟨x.toInt.toNat, by omega, ?_, by omega, rfl⟩
  rw [← Int32.toInt_inj, nI_toInt (by omega)]
  omega
theorem zSum_le {v : Nat → Int} {o : Nat} {c : Int} : ∀ {n : Nat}, (∀ i, i < n → v (o + i) ≤ c) → zSum v o n ≤ n * c
  | 0, _ => by simp [zSum]
  | n + 1, h => by
    have h1 := zSum_le (n := n) (fun i hi => h i (by omega))
    have h2 := h n (by omega)
    have e : ((n + 1 : Nat) : Int) * c = n * c + c := by rw [Int.natCast_add, Int.add_mul]; simp
    rw [zSum, e]
    omega
theorem MR.z {w : Nat → Int64} {v : Nat → Int} (h : MR 0 w v) {i : Nat} (hi : i < 140) : (w i).toInt = v i := by
  have := h i hi
  rwa [Nat.zero_add] at this
theorem ne_z {x y : Int32} (h : ¬ x = y) : ¬ x.toInt = y.toInt := fun z => h (Int32.toInt_inj.mp z)
theorem nok_p {T : Nat → Nat → Int} {ns np : Nat} {M : Int} {v : Nat → Int} (h : NOK T ns np (fun _ => 2 * M) M v) {p : Nat} (hp : p < np) : (0 ≤ v (10 + p) ∧ v (10 + p) ≤ 9999) ∧ (-1 ≤ v (20 + p) ∧ v (20 + p) < ns) ∧ (0 ≤ v (30 + p) ∧ v (30 + p) ≤ 2 * M) ∧ (0 ≤ v (40 + p) ∧ v (40 + p) ≤ 2 * M) ∧ (0 ≤ v (50 + p) ∧ v (50 + p) ≤ 99 * (2 * M)) := h.2.1 p hp
