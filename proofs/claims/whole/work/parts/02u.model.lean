/-! the reference's row of longs, at an offset -/
def MR (X : Nat) (w : Nat → Int64) (v : Nat → Int) : Prop := ∀ i, i < 140 → (w (X + i)).toInt = v i
def MF (X : Nat) (w w2 : Nat → Int64) : Prop := ∀ j, (j < X ∨ X + 140 ≤ j) → w2 j = w j
theorem MR.up {X i : Nat} {w : Nat → Int64} {v : Nat → Int} {y : Int64} {z : Int} (h : MR X w v) (hz : y.toInt = z) : MR X (vp_updL w (X + i) y) (uz v i z) := fun j hj => by
  by_cases e : j = i
  · subst e; rw [uz_eq, vp_updL, if_pos rfl]; exact hz
  · rw [uz_ne e, vp_updL, if_neg (by omega)]; exact h j hj
theorem MF.rf (X : Nat) (w : Nat → Int64) : MF X w w := fun _ _ => rfl
theorem MF.up {X i : Nat} {w0 w : Nat → Int64} {y : Int64} (h : MF X w0 w) (hi : i < 140) : MF X w0 (vp_updL w (X + i) y) := fun j hj => by
  rw [vp_updL, if_neg (by omega)]; exact h j hj
theorem MF.tr {X : Nat} {w0 w1 w2 : Nat → Int64} (h : MF X w0 w1) (h2 : MF X w1 w2) : MF X w0 w2 := fun j hj => (h2 j hj).trans (h j hj)
/-- the reference's town tells T -/
def MT (T : Nat → Nat → Int) (ns np : Nat) (fu fd fi : Int32) (zs cl ks ne mn : Nat → Int32) : Prop :=
  mn 0 = nI ns ∧ mn 1 = nI np ∧ (∀ b, b < ns → (zs b).toInt = T 0 b ∧ (cl b).toInt = T 1 b) ∧ (∀ p, p < np → (ks p).toInt = T 2 p ∧ (ne p).toInt = T 3 p) ∧ fu.toInt = T 4 0 ∧ fd.toInt = T 4 1 ∧ fi.toInt = T 4 2
theorem ix1 (X c : Nat) : nI X + nI c = nI (X + c) := nI_add X c
theorem ix2 (X c p : Nat) : nI X + nI c + nI p = nI (X + (c + p)) := by rw [nI_add, nI_add, Nat.add_assoc]
/-- who sits on b first -/
def zFirst (v : Nat → Int) (b : Nat) : Nat → Option Nat
  | 0 => none
  | n + 1 => match zFirst v b n with
    | some p => some p
    | none => if v (20 + n) = (b : Int) then some n else none
def zSitter (v : Nat → Int) (b n : Nat) : Int32 := match zFirst v b n with
  | some p => nI p
  | none => -1
theorem zFirst_none {v : Nat → Int} {b : Nat} : ∀ {n : Nat}, zEmpty v b n → zFirst v b n = none
  | 0, _ => rfl
  | n + 1, h => by rw [zFirst, zFirst_none h.1]; exact if_neg h.2
theorem zFirst_some {v : Nat → Int} {b i : Nat} (h : zEmpty v b i) (hi : v (20 + i) = (b : Int)) : ∀ {n : Nat}, i < n → zFirst v b n = some i
  | 0, q => absurd q (Nat.not_lt_zero _)
  | n + 1, q => by
    rw [zFirst]
    rcases Nat.lt_or_ge i n with l | l
    · rw [zFirst_some h hi l]
    · have e : i = n := by omega
      subst e
      rw [zFirst_none h]
      exact if_pos hi
theorem zSitter_no {v : Nat → Int} {b n : Nat} (h : zEmpty v b n) : zSitter v b n = -1 := by unfold zSitter; rw [zFirst_none h]
theorem zSitter_yes {v : Nat → Int} {b i n : Nat} (h : zEmpty v b i) (hi : v (20 + i) = (b : Int)) (hn : i < n) : zSitter v b n = nI i := by unfold zSitter; rw [zFirst_some h hi hn]
theorem zEmpty_not {v : Nat → Int} {b i n : Nat} (hi : v (20 + i) = (b : Int)) (hn : i < n) : ¬ zEmpty v b n := fun h => (zEmpty_iff.mp h) i hn hi
theorem uz_same {v : Nat → Int} {i : Nat} {x : Int} (h : x = v i) : uz v i x = v := by
  funext j
  by_cases e : j = i
  · subst e; rw [uz_eq, h]
  · rw [uz_ne e]
theorem zLoss_0 {T : Nat → Nat → Int} {b : Nat} {v : Nat → Int} (h : v b ≤ 0) : zLoss T b v = v := by
  unfold zLoss
  have e : lossZ (T 1 b) (v b) = 0 := if_pos h
  rw [e, uz_same (v := v) (by omega)]
  exact uz_same (by omega)
theorem l_min {a b : Int64} {x y : Int} (ha : a.toInt = x) (hb : b.toInt = y) : (if a < b then a else b).toInt = minZ x y := by
  rw [l_if (l_lt ha hb) ha hb]
  unfold minZ
  split <;> split <;> omega
