/-! the class's town as it is told, clause by clause -/
section CWS
variable {n0 p0 : Nat} {T : Nat → Nat → Int} {ff fn : Bool} {ns np fu fd fi : Int32} {sz pt fh kd nd fw : Nat → Int32} {r1 r2 r3 : Int32} {S K H : Int}
theorem CW_stone (h : CW (n0, p0, T, ff, fn) ns np fu fd fi sz pt fh kd nd fw) (e1 : r1.toInt = S) (e2 : r2.toInt = K) (e3 : r3.toInt = H) : CW (n0 + 1, p0, uT (uT (uT T 0 n0 S) 1 n0 K) 5 n0 H, ff, fn) (ns + 1) np fu fd fi (upd sz n0 r1) (upd pt n0 r2) (upd fh n0 r3) kd nd fw := by
  obtain ⟨⟨c1, c2, c3, c4, c5, c6, c7⟩, c8, c9⟩ := h
  dsimp only at c1 c2 c3 c4 c5 c6 c7 c8 c9
  refine ⟨⟨by rw [c1]; exact nI_1 n0, c2, fun b hb => ?_, fun p hp => ?_, ?_, ?_, ?_⟩, fun b hb => ?_, fun p hp => ?_⟩
  · dsimp only at hb ⊢
    rw [uT_ne (p := 0) (by omega), uT_ne (p := 0) (by omega), uT_ne (p := 1) (i := 5) (by omega)]
    by_cases e : b = n0
    · subst e; rw [upd_at, upd_at, uT_at, uT_at]; exact ⟨e1, e2⟩
    · rw [upd_ne e, upd_ne e, uT_ne (by omega), uT_ne (by omega), uT_ne (by omega)]; exact c3 b (by omega)
  · dsimp only
    rw [uT_ne (p := 2) (by omega), uT_ne (p := 2) (by omega), uT_ne (p := 2) (by omega), uT_ne (p := 3) (by omega), uT_ne (p := 3) (by omega), uT_ne (p := 3) (by omega)]; exact c4 p hp
  · dsimp only; rw [uT_ne (by omega), uT_ne (by omega), uT_ne (by omega)]; exact c5
  · dsimp only; rw [uT_ne (by omega), uT_ne (by omega), uT_ne (by omega)]; exact c6
  · dsimp only; rw [uT_ne (by omega), uT_ne (by omega), uT_ne (by omega)]; exact c7
  · dsimp only at hb ⊢
    by_cases e : b = n0
    · subst e; rw [upd_at, uT_at]; exact e3
    · rw [upd_ne e, uT_ne (by omega), uT_ne (by omega), uT_ne (by omega)]; exact c8 b (by omega)
  · dsimp only; rw [uT_ne (by omega), uT_ne (by omega), uT_ne (by omega)]; exact c9 p hp
theorem CW_person (h : CW (n0, p0, T, ff, fn) ns np fu fd fi sz pt fh kd nd fw) (e1 : r1.toInt = S) (e2 : r2.toInt = K) (e3 : r3.toInt = H) : CW (n0, p0 + 1, uT (uT (uT T 2 p0 S) 6 p0 K) 3 p0 H, ff, fn) ns (np + 1) fu fd fi sz pt fh (upd kd p0 r1) (upd nd p0 r3) (upd fw p0 r2) := by
  obtain ⟨⟨c1, c2, c3, c4, c5, c6, c7⟩, c8, c9⟩ := h
  dsimp only at c1 c2 c3 c4 c5 c6 c7 c8 c9
  refine ⟨⟨c1, by rw [c2]; exact nI_1 p0, fun b hb => ?_, fun p hp => ?_, ?_, ?_, ?_⟩, fun b hb => ?_, fun p hp => ?_⟩
  · dsimp only
    rw [uT_ne (p := 0) (by omega), uT_ne (p := 0) (by omega), uT_ne (p := 0) (by omega), uT_ne (p := 1) (by omega), uT_ne (p := 1) (by omega), uT_ne (p := 1) (by omega)]; exact c3 b hb
  · dsimp only at hp ⊢
    rw [uT_ne (p := 2) (by omega), uT_ne (p := 2) (by omega)]
    by_cases e : p = p0
    · subst e; rw [upd_at, upd_at, uT_at, uT_at]; exact ⟨e1, e3⟩
    · rw [upd_ne e, upd_ne e, uT_ne (by omega), uT_ne (p := 3) (by omega), uT_ne (p := 3) (by omega), uT_ne (p := 3) (by omega)]; exact c4 p (by omega)
  · dsimp only; rw [uT_ne (by omega), uT_ne (by omega), uT_ne (by omega)]; exact c5
  · dsimp only; rw [uT_ne (by omega), uT_ne (by omega), uT_ne (by omega)]; exact c6
  · dsimp only; rw [uT_ne (by omega), uT_ne (by omega), uT_ne (by omega)]; exact c7
  · dsimp only; rw [uT_ne (by omega), uT_ne (by omega), uT_ne (by omega)]; exact c8 b hb
  · dsimp only at hp ⊢
    rw [uT_ne (p := 6) (by omega)]
    by_cases e : p = p0
    · subst e; rw [upd_at, uT_at]; exact e2
    · rw [upd_ne e, uT_ne (by omega), uT_ne (by omega)]; exact c9 p (by omega)
theorem CW_frost (h : CW (n0, p0, T, ff, fn) ns np fu fd fi sz pt fh kd nd fw) (e1 : r1.toInt = S) (e2 : r2.toInt = K) : CW (n0, p0, uT (uT T 4 0 S) 4 1 K, true, fn) ns np r1 r2 fi sz pt fh kd nd fw := by
  obtain ⟨⟨c1, c2, c3, c4, c5, c6, c7⟩, c8, c9⟩ := h
  dsimp only at c1 c2 c3 c4 c5 c6 c7 c8 c9
  refine ⟨⟨c1, c2, fun b hb => ?_, fun p hp => ?_, ?_, ?_, ?_⟩, fun b hb => ?_, fun p hp => ?_⟩
  · dsimp only; rw [uT_ne (by omega), uT_ne (by omega), uT_ne (by omega), uT_ne (by omega)]; exact c3 b hb
  · dsimp only; rw [uT_ne (by omega), uT_ne (by omega), uT_ne (by omega), uT_ne (by omega)]; exact c4 p hp
  · dsimp only; rw [uT_ne (by omega), uT_at]; exact e1
  · dsimp only; rw [uT_at]; exact e2
  · dsimp only; rw [uT_ne (by omega), uT_ne (by omega)]; exact c7
  · dsimp only; rw [uT_ne (by omega), uT_ne (by omega)]; exact c8 b hb
  · dsimp only; rw [uT_ne (by omega), uT_ne (by omega)]; exact c9 p hp
theorem CW_fine (h : CW (n0, p0, T, ff, fn) ns np fu fd fi sz pt fh kd nd fw) (e1 : r1.toInt = S) : CW (n0, p0, uT T 4 2 S, ff, true) ns np fu fd r1 sz pt fh kd nd fw := by
  obtain ⟨⟨c1, c2, c3, c4, c5, c6, c7⟩, c8, c9⟩ := h
  dsimp only at c1 c2 c3 c4 c5 c6 c7 c8 c9
  refine ⟨⟨c1, c2, fun b hb => ?_, fun p hp => ?_, ?_, ?_, ?_⟩, fun b hb => ?_, fun p hp => ?_⟩
  · dsimp only; rw [uT_ne (by omega), uT_ne (by omega)]; exact c3 b hb
  · dsimp only; rw [uT_ne (by omega), uT_ne (by omega)]; exact c4 p hp
  · dsimp only; rw [uT_ne (by omega)]; exact c5
  · dsimp only; rw [uT_ne (by omega)]; exact c6
  · dsimp only; rw [uT_at]; exact e1
  · dsimp only; rw [uT_ne (by omega)]; exact c8 b hb
  · dsimp only; rw [uT_ne (by omega)]; exact c9 p hp
theorem CW_0 {sz pt fh kd nd fw : Nat → Int32} : CW (0, 0, T0n, false, false) 0 0 3 1 0 sz pt fh kd nd fw :=
  ⟨⟨rfl, rfl, fun b hb => absurd hb (Nat.not_lt_zero _), fun b hb => absurd hb (Nat.not_lt_zero _), rfl, rfl, rfl⟩, fun b hb => absurd hb (Nat.not_lt_zero _), fun b hb => absurd hb (Nat.not_lt_zero _)⟩
end CWS
section SMC
variable {B : Nat → Int} {L w a : Nat} {t : PTn} {x : Flt}
theorem smc_l {α : Type} : smc (α := α) B L (.inl x) = .inl x := rfl
theorem smc_f {α : Type} {b : Nat} {r : α} (h : smR B L b = .inl x) : smc B L (.inr (b, r)) = .inl x := by
  show bnd (smR B L b) _ = _
  rw [h]; rfl
theorem smc_o {α : Type} {b c : Nat} {r : α} (h : smR B L b = .inr c) : smc B L (.inr (b, r)) = .inr (c, r) := by
  show bnd (smR B L b) _ = _
  rw [h]; rfl
theorem stN_9 {n : Nat} (h : 9 ≤ n) : stN B L n w a = .inl (3, w) := if_pos h
theorem stN_1 {n : Nat} (h : n < 9) (h1 : nuR B L 1 9999 a = .inl x) : stN B L n w a = .inl x := by
  unfold stN; rw [if_neg (by omega), h1]; rfl
theorem stN_2 {n a1 t1 : Nat} {v1 : Int} (h : n < 9) (h1 : nuR B L 1 9999 a = .inr (a1, t1, v1)) (h2 : nuR B L 2 999 a1 = .inl x) : stN B L n w a = .inl x := by
  unfold stN; rw [if_neg (by omega), h1]
  show bnd (nuR B L 2 999 a1) _ = _
  rw [h2]; rfl
theorem stN_3 {n a1 t1 a2 t2 : Nat} {v1 v2 : Int} (h : n < 9) (h1 : nuR B L 1 9999 a = .inr (a1, t1, v1)) (h2 : nuR B L 2 999 a1 = .inr (a2, t2, v2)) (h3 : nuR B L 0 9999 a2 = .inl x) : stN B L n w a = .inl x := by
  unfold stN; rw [if_neg (by omega), h1]
  show bnd (nuR B L 2 999 a1) _ = _
  rw [h2]
  show bnd (nuR B L 0 9999 a2) _ = _
  rw [h3]; rfl
theorem stN_4 {n a1 t1 a2 t2 a3 t3 : Nat} {v1 v2 v3 : Int} (h : n < 9) (h1 : nuR B L 1 9999 a = .inr (a1, t1, v1)) (h2 : nuR B L 2 999 a1 = .inr (a2, t2, v2)) (h3 : nuR B L 0 9999 a2 = .inr (a3, t3, v3)) (h4 : v1 < v3) : stN B L n w a = .inl (4, t3) := by
  unfold stN; rw [if_neg (by omega), h1]
  show bnd (nuR B L 2 999 a1) _ = _
  rw [h2]
  show bnd (nuR B L 0 9999 a2) _ = _
  rw [h3]
  exact if_pos h4
theorem stN_5 {n a1 t1 a2 t2 a3 t3 : Nat} {v1 v2 v3 : Int} (h : n < 9) (h1 : nuR B L 1 9999 a = .inr (a1, t1, v1)) (h2 : nuR B L 2 999 a1 = .inr (a2, t2, v2)) (h3 : nuR B L 0 9999 a2 = .inr (a3, t3, v3)) (h4 : ¬ v1 < v3) : stN B L n w a = .inr (a3, v1, v2, v3) := by
  unfold stN; rw [if_neg (by omega), h1]
  show bnd (nuR B L 2 999 a1) _ = _
  rw [h2]
  show bnd (nuR B L 0 9999 a2) _ = _
  rw [h3]
  exact if_neg h4
theorem peN_9 {n : Nat} (h : 8 ≤ n) : peN B L n w a = .inl (3, w) := if_pos h
theorem peN_1 {n : Nat} (h : n < 8) (h1 : kiR B L a = .inl x) : peN B L n w a = .inl x := by
  unfold peN; rw [if_neg (by omega), h1]; rfl
theorem peN_2 {n a1 : Nat} {v1 : Int} (h : n < 8) (h1 : kiR B L a = .inr (a1, v1)) (h2 : nuR B L 0 9999 a1 = .inl x) : peN B L n w a = .inl x := by
  unfold peN; rw [if_neg (by omega), h1]
  show bnd (nuR B L 0 9999 a1) _ = _
  rw [h2]; rfl
theorem peN_3 {n a1 a2 t2 : Nat} {v1 v2 : Int} (h : n < 8) (h1 : kiR B L a = .inr (a1, v1)) (h2 : nuR B L 0 9999 a1 = .inr (a2, t2, v2)) (h3 : nuR B L 0 9999 a2 = .inl x) : peN B L n w a = .inl x := by
  unfold peN; rw [if_neg (by omega), h1]
  show bnd (nuR B L 0 9999 a1) _ = _
  rw [h2]
  show bnd (nuR B L 0 9999 a2) _ = _
  rw [h3]; rfl
theorem peN_5 {n a1 a2 t2 a3 t3 : Nat} {v1 v2 v3 : Int} (h : n < 8) (h1 : kiR B L a = .inr (a1, v1)) (h2 : nuR B L 0 9999 a1 = .inr (a2, t2, v2)) (h3 : nuR B L 0 9999 a2 = .inr (a3, t3, v3)) : peN B L n w a = .inr (a3, v1, v2, v3) := by
  unfold peN; rw [if_neg (by omega), h1]
  show bnd (nuR B L 0 9999 a1) _ = _
  rw [h2]
  show bnd (nuR B L 0 9999 a2) _ = _
  rw [h3]; rfl
theorem frN_9 : frN B L true w a = .inl (3, w) := rfl
theorem frN_1 (h1 : nuR B L 0 99 a = .inl x) : frN B L false w a = .inl x := by
  show bnd (nuR B L 0 99 a) _ = _
  rw [h1]; rfl
theorem frN_2 {a1 t1 : Nat} {v1 : Int} (h1 : nuR B L 0 99 a = .inr (a1, t1, v1)) (h2 : nuR B L 0 99 a1 = .inl x) : frN B L false w a = .inl x := by
  show bnd (nuR B L 0 99 a) _ = _
  rw [h1]
  show bnd (nuR B L 0 99 a1) _ = _
  rw [h2]; rfl
theorem frN_5 {a1 t1 a2 t2 : Nat} {v1 v2 : Int} (h1 : nuR B L 0 99 a = .inr (a1, t1, v1)) (h2 : nuR B L 0 99 a1 = .inr (a2, t2, v2)) : frN B L false w a = .inr (a2, v1, v2) := by
  show bnd (nuR B L 0 99 a) _ = _
  rw [h1]
  show bnd (nuR B L 0 99 a1) _ = _
  rw [h2]; rfl
theorem fiN_9 : fiN B L true w a = .inl (3, w) := rfl
theorem fiN_1 (h1 : nuR B L 0 99 a = .inl x) : fiN B L false w a = .inl x := by
  show bnd (nuR B L 0 99 a) _ = _
  rw [h1]; rfl
theorem fiN_5 {a1 t1 : Nat} {v1 : Int} (h1 : nuR B L 0 99 a = .inr (a1, t1, v1)) : fiN B L false w a = .inr (a1, v1) := by
  show bnd (nuR B L 0 99 a) _ = _
  rw [h1]; rfl
end SMC
def qFd (B : Nat → Int) (L : Nat) (n : Int) (y : Int64) : Int × (Nat → Int) × Nat :=
  if ¬ (1 ≤ n ∧ n ≤ 8) then (-1000000002, B, L) else if 400 < (L : Int) + n then (-1000000004, B, L) else ((L : Int) + n, fdB B L n.toNat y, L + n.toNat)
