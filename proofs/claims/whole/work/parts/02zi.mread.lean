/-! the reference's town as it is told -/
def MW (t : PTn) (zs cl hs ks wa ne mn : Nat → Int32) (nu nw nf bf bn : Int32) : Prop :=
  mn 2 = nI t.1 ∧ mn 3 = nI t.2.1 ∧ (∀ b, b < t.1 → (zs (10 + b)).toInt = t.2.2.1 0 b ∧ (cl (10 + b)).toInt = t.2.2.1 1 b ∧ (hs (10 + b)).toInt = t.2.2.1 5 b) ∧ (∀ p, p < t.2.1 → (ks (10 + p)).toInt = t.2.2.1 2 p ∧ (wa (10 + p)).toInt = t.2.2.1 6 p ∧ (ne (10 + p)).toInt = t.2.2.1 3 p) ∧ nu.toInt = t.2.2.1 4 0 ∧ nw.toInt = t.2.2.1 4 1 ∧ nf.toInt = t.2.2.1 4 2 ∧ bf = flg t.2.2.2.1 ∧ bn = flg t.2.2.2.2
def MP (L : Nat) (r : Flt ⊕ (Nat × PTn)) (fo fa ap : Int32) (zs cl hs ks wa ne mn : Nat → Int32) (nu nw nf bf bn : Int32) : Prop :=
  match r with
  | .inl x => CSf L x fo fa ap
  | .inr (a, t) => CSo L a fo fa ap ∧ MW t zs cl hs ks wa ne mn nu nw nf bf bn
/-- the town that stands is left as it is -/
def fr10 (f g : Nat → Int32) : Prop := ∀ i, i < 10 → g i = f i
theorem fr10.rf (f : Nat → Int32) : fr10 f f := fun _ _ => rfl
theorem fr10.up {f g : Nat → Int32} {i : Nat} {x : Int32} (h : fr10 f g) (hi : 10 ≤ i) : fr10 f (upd g i x) := fun j hj => by rw [upd_ne (by omega)]; exact h j hj
theorem fr10.tr {f g h : Nat → Int32} (h1 : fr10 f g) (h2 : fr10 g h) : fr10 f h := fun i hi => (h2 i hi).trans (h1 i hi)
def fr2 (f g : Nat → Int32) : Prop := g 0 = f 0 ∧ g 1 = f 1
/-- the letters of a word -/
def ltr (a1 a2 a3 a4 a5 a6 : Int32) (k : Nat) : Int32 := if k = 0 then a1 else if k = 1 then a2 else if k = 2 then a3 else if k = 3 then a4 else if k = 4 then a5 else a6
/-- a night's first row -/
def bgR (hs wa : Nat → Int32) (s : Int) : Nat → Int := fun i => if i < 10 then (hs i).toInt else if i < 20 then (wa (i - 10)).toInt else if i < 30 then -1 else if i = 133 then s else 0
theorem bgR_ag {t : PTn} {hs wa : Nat → Int32} {s : Int} (h9 : t.1 ≤ 9) (h8 : t.2.1 ≤ 8) (h1 : ∀ b, b < t.1 → (hs b).toInt = t.2.2.1 5 b) (h2 : ∀ p, p < t.2.1 → (wa p).toInt = t.2.2.1 6 p) : agr t.1 t.2.1 (zBeg t.2.2.1 s) (bgR hs wa s) := by
  intro i hi
  unfold zBeg bgR
  by_cases a : i < 10
  · rw [if_pos a, if_pos a]
    exact (h1 i (by rcases hi with h | h | h | h | h | h | ⟨p, b, hp, hb, rfl⟩ | h | h | h <;> omega)).symm
  · rw [if_neg a, if_neg a]
    by_cases b : i < 20
    · rw [if_pos b, if_pos b]
      exact (h2 (i - 10) (by rcases hi with h | h | h | h | h | h | ⟨p, b, hp, hb, rfl⟩ | h | h | h <;> omega)).symm
    · rw [if_neg b, if_neg b]
section WANT
variable {fo t r fo2 fa2 fa y z : Int32}
theorem want_ok (h : (fo = 0 ∧ ¬ t = 0 ∧ r = 1 ∧ fo2 = fo ∧ fa2 = fa) ∨ (fo = 0 ∧ t = 0 ∧ r = 0 ∧ fo2 = y ∧ fa2 = z) ∨ (¬ fo = 0 ∧ r = 0 ∧ fo2 = fo ∧ fa2 = fa)) (h0 : fo = 0) (ht : ¬ t = 0) : r = 1 ∧ fo2 = fo ∧ fa2 = fa := by
  rcases h with h | h | h
  · exact h.2.2
  · exact absurd h.2.1 ht
  · exact absurd h0 h.1
theorem want_no (h : (fo = 0 ∧ ¬ t = 0 ∧ r = 1 ∧ fo2 = fo ∧ fa2 = fa) ∨ (fo = 0 ∧ t = 0 ∧ r = 0 ∧ fo2 = y ∧ fa2 = z) ∨ (¬ fo = 0 ∧ r = 0 ∧ fo2 = fo ∧ fa2 = fa)) (h0 : fo = 0) (ht : t = 0) : r = 0 ∧ fo2 = y ∧ fa2 = z := by
  rcases h with h | h | h
  · exact absurd ht h.2.1
  · exact h.2.2
  · exact absurd h0 h.1
theorem want_ft (h : (fo = 0 ∧ ¬ t = 0 ∧ r = 1 ∧ fo2 = fo ∧ fa2 = fa) ∨ (fo = 0 ∧ t = 0 ∧ r = 0 ∧ fo2 = y ∧ fa2 = z) ∨ (¬ fo = 0 ∧ r = 0 ∧ fo2 = fo ∧ fa2 = fa)) (h0 : ¬ fo = 0) : r = 0 ∧ fo2 = fo ∧ fa2 = fa := by
  rcases h with h | h | h
  · exact absurd h.1 h0
  · exact absurd h.1 h0
  · exact h.2
end WANT
section MWS
variable {n0 p0 : Nat} {T : Nat → Nat → Int} {ff fn : Bool} {nu nw nf bf bn : Int32} {zs cl hs ks wa ne mn : Nat → Int32} {r1 r2 r3 : Int32} {S K H : Int}
theorem MW_stone (h : MW (n0, p0, T, ff, fn) zs cl hs ks wa ne mn nu nw nf bf bn) (e1 : r1.toInt = S) (e2 : r2.toInt = K) (e3 : r3.toInt = H) : MW (n0 + 1, p0, uT (uT (uT T 0 n0 S) 1 n0 K) 5 n0 H, ff, fn) (upd zs (10 + n0) r1) (upd cl (10 + n0) r2) (upd hs (10 + n0) r3) ks wa ne (upd mn 2 (mn 2 + 1)) nu nw nf bf bn := by
  obtain ⟨c1, c2, c3, c4, c5, c6, c7, c8, c9⟩ := h
  dsimp only at c1 c2 c3 c4 c5 c6 c7 c8 c9
  refine ⟨by rw [upd_at, c1]; exact nI_1 n0, by rw [upd_ne (by omega)]; exact c2, fun b hb => ?_, fun p hp => ?_, ?_, ?_, ?_, c8, c9⟩
  · dsimp only at hb ⊢
    rw [uT_ne (p := 0) (by omega), uT_ne (p := 0) (by omega), uT_ne (p := 1) (i := 5) (by omega)]
    by_cases e : b = n0
    · subst e; rw [upd_at, upd_at, upd_at, uT_at, uT_at, uT_at]; exact ⟨e1, e2, e3⟩
    · rw [upd_ne (by omega), upd_ne (by omega), upd_ne (by omega), uT_ne (p := 0) (by omega), uT_ne (p := 1) (by omega), uT_ne (p := 1) (by omega), uT_ne (p := 5) (by omega), uT_ne (p := 5) (by omega), uT_ne (p := 5) (by omega)]; exact c3 b (by omega)
  · dsimp only
    rw [uT_ne (p := 2) (by omega), uT_ne (p := 2) (by omega), uT_ne (p := 2) (by omega), uT_ne (p := 3) (by omega), uT_ne (p := 3) (by omega), uT_ne (p := 3) (by omega), uT_ne (p := 6) (by omega), uT_ne (p := 6) (by omega), uT_ne (p := 6) (by omega)]; exact c4 p hp
  · dsimp only; rw [uT_ne (by omega), uT_ne (by omega), uT_ne (by omega)]; exact c5
  · dsimp only; rw [uT_ne (by omega), uT_ne (by omega), uT_ne (by omega)]; exact c6
  · dsimp only; rw [uT_ne (by omega), uT_ne (by omega), uT_ne (by omega)]; exact c7
theorem MW_person (h : MW (n0, p0, T, ff, fn) zs cl hs ks wa ne mn nu nw nf bf bn) (e1 : r1.toInt = S) (e2 : r2.toInt = K) (e3 : r3.toInt = H) : MW (n0, p0 + 1, uT (uT (uT T 2 p0 S) 6 p0 K) 3 p0 H, ff, fn) zs cl hs (upd ks (10 + p0) r1) (upd wa (10 + p0) r2) (upd ne (10 + p0) r3) (upd mn 3 (mn 3 + 1)) nu nw nf bf bn := by
  obtain ⟨c1, c2, c3, c4, c5, c6, c7, c8, c9⟩ := h
  dsimp only at c1 c2 c3 c4 c5 c6 c7 c8 c9
  refine ⟨by rw [upd_ne (by omega)]; exact c1, by rw [upd_at, c2]; exact nI_1 p0, fun b hb => ?_, fun p hp => ?_, ?_, ?_, ?_, c8, c9⟩
  · dsimp only
    rw [uT_ne (p := 0) (by omega), uT_ne (p := 0) (by omega), uT_ne (p := 0) (by omega), uT_ne (p := 1) (by omega), uT_ne (p := 1) (by omega), uT_ne (p := 1) (by omega), uT_ne (p := 5) (by omega), uT_ne (p := 5) (by omega), uT_ne (p := 5) (by omega)]; exact c3 b hb
  · dsimp only at hp ⊢
    rw [uT_ne (p := 2) (by omega), uT_ne (p := 2) (by omega), uT_ne (p := 6) (i := 3) (by omega)]
    by_cases e : p = p0
    · subst e; rw [upd_at, upd_at, upd_at, uT_at, uT_at, uT_at]; exact ⟨e1, e2, e3⟩
    · rw [upd_ne (by omega), upd_ne (by omega), upd_ne (by omega), uT_ne (p := 2) (by omega), uT_ne (p := 6) (by omega), uT_ne (p := 6) (by omega), uT_ne (p := 3) (by omega), uT_ne (p := 3) (by omega), uT_ne (p := 3) (by omega)]; exact c4 p (by omega)
  · dsimp only; rw [uT_ne (by omega), uT_ne (by omega), uT_ne (by omega)]; exact c5
  · dsimp only; rw [uT_ne (by omega), uT_ne (by omega), uT_ne (by omega)]; exact c6
  · dsimp only; rw [uT_ne (by omega), uT_ne (by omega), uT_ne (by omega)]; exact c7
theorem MW_frost (h : MW (n0, p0, T, ff, fn) zs cl hs ks wa ne mn nu nw nf bf bn) (e1 : r1.toInt = S) (e2 : r2.toInt = K) : MW (n0, p0, uT (uT T 4 0 S) 4 1 K, true, fn) zs cl hs ks wa ne mn r1 r2 nf 1 bn := by
  obtain ⟨c1, c2, c3, c4, c5, c6, c7, c8, c9⟩ := h
  dsimp only at c1 c2 c3 c4 c5 c6 c7 c8 c9
  refine ⟨c1, c2, fun b hb => ?_, fun p hp => ?_, ?_, ?_, ?_, rfl, c9⟩
  · dsimp only; rw [uT_ne (p := 0) (by omega), uT_ne (p := 0) (by omega), uT_ne (p := 1) (by omega), uT_ne (p := 1) (by omega), uT_ne (p := 5) (by omega), uT_ne (p := 5) (by omega)]; exact c3 b hb
  · dsimp only; rw [uT_ne (p := 2) (by omega), uT_ne (p := 2) (by omega), uT_ne (p := 6) (by omega), uT_ne (p := 6) (by omega), uT_ne (p := 3) (by omega), uT_ne (p := 3) (by omega)]; exact c4 p hp
  · dsimp only; rw [uT_ne (by omega), uT_at]; exact e1
  · dsimp only; rw [uT_at]; exact e2
  · dsimp only; rw [uT_ne (by omega), uT_ne (by omega)]; exact c7
theorem MW_fine (h : MW (n0, p0, T, ff, fn) zs cl hs ks wa ne mn nu nw nf bf bn) (e1 : r1.toInt = S) : MW (n0, p0, uT T 4 2 S, ff, true) zs cl hs ks wa ne mn nu nw r1 bf 1 := by
  obtain ⟨c1, c2, c3, c4, c5, c6, c7, c8, c9⟩ := h
  dsimp only at c1 c2 c3 c4 c5 c6 c7 c8 c9
  refine ⟨c1, c2, fun b hb => ?_, fun p hp => ?_, ?_, ?_, ?_, c8, rfl⟩
  · dsimp only; rw [uT_ne (p := 0) (by omega), uT_ne (p := 1) (by omega), uT_ne (p := 5) (by omega)]; exact c3 b hb
  · dsimp only; rw [uT_ne (p := 2) (by omega), uT_ne (p := 6) (by omega), uT_ne (p := 3) (by omega)]; exact c4 p hp
  · dsimp only; rw [uT_ne (by omega)]; exact c5
  · dsimp only; rw [uT_ne (by omega)]; exact c6
  · dsimp only; rw [uT_at]; exact e1
end MWS
theorem kdW_i {B : Nat → Int} {w e : Nat} {v : Int32} (h : v.toInt = kdW B w e) : v < 0 ↔ kdW B w e < 0 := i_lt h i32_0
theorem CSf.pos {L : Nat} {x : Flt} {xg xf xa : Int32} (h : CSf L x xg xf xa) : ¬ xg ≤ 0 := by
  have h1 := h.1
  have h2 := h.2.1
  rw [h.2.2.1, i_le (nI_toInt (by omega)) i32_0]; omega
