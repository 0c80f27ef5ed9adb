/-! one person on one stone, apart from all others -/
def zSt (T : Nat → Nat → Int) (p : Nat) (s : Int) (x : Int × Int) : Int × Int :=
  if 0 ≤ s then (x.1 - flowZ (T 2 p) (T 0 s.toNat) x.1 x.2 - minZ (frostZ (T 2 p) (T 4 0) (T 4 1) true) (x.1 - flowZ (T 2 p) (T 0 s.toNat) x.1 x.2), x.2 + flowZ (T 2 p) (T 0 s.toNat) x.1 x.2)
  else (x.1 - minZ (frostZ (T 2 p) (T 4 0) (T 4 1) false) x.1, x.2)
def zSts (T : Nat → Nat → Int) (p : Nat) (s : Int) (x : Int × Int) : Nat → Int × Int
  | 0 => x
  | n + 1 => zSt T p s (zSts T p s x n)
/-- how many of n minutes he is cold -/
def zCm (T : Nat → Nat → Int) (p : Nat) (s : Int) (x : Int × Int) : Nat → Int
  | 0 => 0
  | n + 1 => zCm T p s x n + if (zSts T p s x (n + 1)).1 < T 3 p then 1 else 0
def zLos (T : Nat → Nat → Int) (b : Nat) (h : Int) : Nat → Int
  | 0 => h
  | n + 1 => zLos T b h n - lossZ (T 1 b) (zLos T b h n)
theorem zSt_up {T : Nat → Nat → Int} {p : Nat} {s : Int} {x : Int × Int} (h : s < 0) : zSt T p s x = (x.1 - minZ (frostZ (T 2 p) (T 4 0) (T 4 1) false) x.1, x.2) := by
  unfold zSt; rw [if_neg (by omega)]
theorem zSt_dn {T : Nat → Nat → Int} {p b : Nat} {x : Int × Int} : zSt T p (b : Int) x = (x.1 - flowZ (T 2 p) (T 0 b) x.1 x.2 - minZ (frostZ (T 2 p) (T 4 0) (T 4 1) true) (x.1 - flowZ (T 2 p) (T 0 b) x.1 x.2), x.2 + flowZ (T 2 p) (T 0 b) x.1 x.2) := by
  unfold zSt; rw [if_pos (by omega), Int.toNat_natCast]
/-- bounds of what is tried -/
def SOK (T : Nat → Nat → Int) (ns : Nat) (s : Int) (x : Int × Int) : Prop := 0 ≤ x.1 ∧ x.1 ≤ 9999 ∧ -1 ≤ s ∧ s < ns ∧ (0 ≤ s → 0 ≤ x.2 ∧ x.2 ≤ T 0 s.toNat)
theorem zSt_ok {T : Nat → Nat → Int} {ns np p : Nat} {s : Int} {x : Int × Int} (hT : TOK T ns np) (hp : p < np) (h : SOK T ns s x) : SOK T ns s (zSt T p s x) := by
  obtain ⟨h1, h2, h3, h4, h5⟩ := h
  have t5 := hT.2.2.2.2
  by_cases q : 0 ≤ s
  · obtain ⟨b, rfl⟩ : ∃ b : Nat, s = (b : Int) := ⟨s.toNat, by omega⟩
    have h6 := h5 q
    rw [Int.toNat_natCast] at h6
    have a3 := hT.2.2.1 b (by omega)
    have fb := flowZ_bd (k := T 2 p) h1 h2 h6.1 h6.2 a3.2.1
    have fz := frostZ_bd (k := T 2 p) (s := true) t5.1 t5.2.1 t5.2.2.1 t5.2.2.2.1
    have mb := minZ_bd (x := frostZ (T 2 p) (T 4 0) (T 4 1) true) (y := x.1 - flowZ (T 2 p) (T 0 b) x.1 x.2) fz.1 fb.2.2.1
    rw [zSt_dn]
    refine ⟨by dsimp only; omega, by dsimp only; omega, h3, h4, fun _ => ?_⟩
    rw [Int.toNat_natCast]
    exact ⟨by dsimp only; omega, by dsimp only; omega⟩
  · have fz := frostZ_bd (k := T 2 p) (s := false) t5.1 t5.2.1 t5.2.2.1 t5.2.2.2.1
    have mb := minZ_bd (x := frostZ (T 2 p) (T 4 0) (T 4 1) false) (y := x.1) fz.1 h1
    rw [zSt_up (by omega)]
    exact ⟨by dsimp only; omega, by dsimp only; omega, h3, h4, fun z => absurd z q⟩
theorem zSts_ok {T : Nat → Nat → Int} {ns np p : Nat} {s : Int} {x : Int × Int} (hT : TOK T ns np) (hp : p < np) (h : SOK T ns s x) : ∀ n, SOK T ns s (zSts T p s x n)
  | 0 => h
  | n + 1 => zSt_ok hT hp (zSts_ok hT hp h n)
/-! one minute of the whole night, person by person -/
section ONE
variable {T : Nat → Nat → Int} {ns np : Nat} {k : Nat → Int} {M : Int} {v : Nat → Int}
/-- what person p has and what his stone has behind the minute -/
def zM (T : Nat → Nat → Int) (v : Nat → Int) (p : Nat) : Int × Int := zSt T p (v (20 + p)) (v (10 + p), v (v (20 + p)).toNat)
theorem zPerson_w {p : Nat} {u : Nat → Int} (hp : p < 8) (hs : u (20 + p) < 9) : zPerson T p u (10 + p) = (zSt T p (u (20 + p)) (u (10 + p), u (u (20 + p)).toNat)).1 := by
  unfold zPerson zSt
  split
  · have hb : (u (20 + p)).toNat < 9 := by omega
    generalize (u (20 + p)).toNat = b at hb ⊢
    rw [zCold_w]
    unfold zFrost zFr
    have own : ∀ w : Nat → Int, zOwn p b w (10 + p) = w (10 + p) := fun w => by
      unfold zOwn; split
      · exact uz_ne (by omega)
      · exact uz_ne (by omega)
    rw [uz_ne (by omega), uz_eq, own]
    unfold zSit
    rw [uz_eq]
  · rw [zCold_w]
    unfold zFrost zFr
    rw [uz_ne (by omega), uz_eq]
    unfold zFine
    rw [uz_ne (by omega)]
theorem zCold_o {p j : Nat} {u : Nat → Int} (h : j ≠ 30 + p) : zCold T p u j = u j := by
  unfold zCold; split
  · exact uz_ne h
  · rfl
theorem zPerson_h {p b : Nat} {u : Nat → Int} (hp : p < 8) (hb : b < 9) (hs : u (20 + p) < 9) : zPerson T p u b = if u (20 + p) = (b : Int) then (zSt T p (u (20 + p)) (u (10 + p), u (u (20 + p)).toNat)).2 else u b := by
  unfold zPerson zSt
  by_cases q : 0 ≤ u (20 + p)
  · rw [if_pos q, if_pos q]
    obtain ⟨c, hc⟩ : ∃ c : Nat, u (20 + p) = (c : Int) := ⟨(u (20 + p)).toNat, by omega⟩
    rw [hc, Int.toNat_natCast, zCold_o (by omega)]
    unfold zFrost zFr
    have own : ∀ w : Nat → Int, zOwn p c w b = w b := fun w => by
      unfold zOwn; split
      · exact uz_ne (by omega)
      · exact uz_ne (by omega)
    rw [uz_ne (by omega), uz_ne (by omega), own]
    unfold zSit
    rw [uz_ne (by omega)]
    by_cases e : c = b
    · subst e; rw [if_pos rfl, uz_eq]
    · rw [if_neg (by omega), uz_ne (by omega)]
  · rw [if_neg q, if_neg (by omega), zCold_o (by omega)]
    unfold zFrost zFr zFine
    rw [uz_ne (by omega), uz_ne (by omega), uz_ne (by omega)]
theorem zPerson_c {p : Nat} {u : Nat → Int} (hp : p < 8) (hs : u (20 + p) < 9) : zPerson T p u (30 + p) = u (30 + p) + if zPerson T p u (10 + p) < T 3 p then 1 else 0 := by
  have key : ∀ w : Nat → Int, w (30 + p) = u (30 + p) → zCold T p w (30 + p) = u (30 + p) + if zCold T p w (10 + p) < T 3 p then 1 else 0 := fun w hw => by
    rw [zCold_w]
    unfold zCold
    split
    · rw [uz_eq, hw]
    · rw [hw]; omega
  unfold zPerson
  by_cases q : 0 ≤ u (20 + p)
  · rw [if_pos q]
    have hb : (u (20 + p)).toNat < 9 := by omega
    generalize (u (20 + p)).toNat = b at hb ⊢
    apply key
    unfold zFrost zFr
    have own : ∀ w : Nat → Int, zOwn p b w (30 + p) = w (30 + p) := fun w => by
      unfold zOwn; split
      · exact uz_ne (by omega)
      · exact uz_ne (by omega)
    rw [uz_ne (by omega), uz_ne (by omega), own]
    unfold zSit
    rw [uz_ne (by omega), uz_ne (by omega)]
  · rw [if_neg q]
    apply key
    unfold zFrost zFr zFine
    rw [uz_ne (by omega), uz_ne (by omega), uz_ne (by omega)]
theorem zPersons_at (hT : TOK T ns np) (hO : NOK T ns np k M v) : ∀ i, i ≤ np → (∀ p, p < np → zPersons T v i (10 + p) = if p < i then (zM T v p).1 else v (10 + p)) ∧ (∀ p b : Nat, p < np → b < 9 → v (20 + p) = (b : Int) → zPersons T v i b = if p < i then (zM T v p).2 else v b) ∧ (∀ b, b < 9 → zEmpty v b i → zPersons T v i b = v b) ∧ (∀ p, p < np → zPersons T v i (30 + p) = if p < i then v (30 + p) + (if (zM T v p).1 < T 3 p then 1 else 0) else v (30 + p))
  | 0, _ => ⟨fun p _ => by rw [if_neg (by omega)]; rfl, fun p b _ _ _ => by rw [if_neg (by omega)]; rfl, fun b _ _ => rfl, fun p _ => by rw [if_neg (by omega)]; rfl⟩
  | i + 1, hi => by
    have t1 := hT.1
    have t2 := hT.2.1
    obtain ⟨h1, h2, h3, h4⟩ := zPersons_at hT hO i (by omega)
    have hil : i < np := by omega
    have es : zPersons T v i (20 + i) = v (20 + i) := zPersons_far hT hO (by omega) i (by omega)
    have sb := (hO.2.1 i hil).2.1
    have e0 : 0 ≤ v (20 + i) → zSt T i (zPersons T v i (20 + i)) (zPersons T v i (10 + i), zPersons T v i (zPersons T v i (20 + i)).toNat) = zM T v i := fun q => by
      unfold zM
      obtain ⟨c, hc⟩ : ∃ c : Nat, v (20 + i) = (c : Int) := ⟨(v (20 + i)).toNat, by omega⟩
      rw [es, h1 i hil, if_neg (by omega), hc, Int.toNat_natCast, h2 i c hil (by omega) hc, if_neg (by omega)]
    have e1 : (zSt T i (zPersons T v i (20 + i)) (zPersons T v i (10 + i), zPersons T v i (zPersons T v i (20 + i)).toNat)).1 = (zM T v i).1 := by
      by_cases q : 0 ≤ v (20 + i)
      · rw [e0 q]
      · unfold zM
        rw [es, h1 i hil, if_neg (by omega), zSt_up (by omega), zSt_up (by omega)]
    refine ⟨fun p hp => ?_, fun p b hp hb hs => ?_, fun b hb he => ?_, fun p hp => ?_⟩
    · rw [zPersons]
      by_cases e : p = i
      · subst e; rw [zPerson_w (by omega) (by omega), e1, if_pos (by omega)]
      · rw [zPerson_far (by omega) (by omega) (by omega) (by omega) (by omega) (by omega) (by omega) (by omega) (by omega), h1 p hp]
        by_cases l : p < i
        · rw [if_pos l, if_pos (by omega)]
        · rw [if_neg l, if_neg (by omega)]
    · rw [zPersons, zPerson_h (by omega) hb (by omega)]
      by_cases e : p = i
      · subst e; rw [es, if_pos hs, ← es, e0 (by omega), if_pos (by omega)]
      · rw [es, if_neg (fun z => by have := hO.2.2.1 p i hp hil e (by omega); omega), h2 p b hp hb hs]
        by_cases l : p < i
        · rw [if_pos l, if_pos (by omega)]
        · rw [if_neg l, if_neg (by omega)]
    · rw [zPersons, zPerson_h (by omega) hb (by omega), es, if_neg he.2, h3 b hb he.1]
    · rw [zPersons]
      by_cases e : p = i
      · subst e
        rw [zPerson_c (by omega) (by omega), zPerson_w (by omega) (by omega), e1, h4 p hp, if_neg (Nat.lt_irrefl p), if_pos (Nat.lt_succ_self p)]
      · rw [zPerson_far (by omega) (by omega) (by omega) (by omega) (by omega) (by omega) (by omega) (by omega) (by omega), h4 p hp]
        by_cases l : p < i
        · rw [if_pos l, if_pos (Nat.lt_succ_of_lt l)]
        · rw [if_neg l, if_neg (show ¬ p < i + 1 by omega)]
theorem zPass_one (hT : TOK T ns np) (hO : NOK T ns np k M v) : (∀ p, p < np → zPass T ns np v (10 + p) = (zM T v p).1) ∧ (∀ p b : Nat, p < np → b < ns → v (20 + p) = (b : Int) → zPass T ns np v b = (zM T v p).2) ∧ (∀ b, b < ns → zEmpty v b np → zPass T ns np v b = v b - lossZ (T 1 b) (v b)) ∧ (∀ p, p < np → zPass T ns np v (30 + p) = v (30 + p) + if (zM T v p).1 < T 3 p then 1 else 0) ∧ (∀ p, p < np → zPass T ns np v (20 + p) = v (20 + p)) := by
  classical
  have t1 := hT.1
  have t2 := hT.2.1
  obtain ⟨h1, h2, h3, h4⟩ := zPersons_at hT hO np (Nat.le_refl np)
  have hE : ∀ b, zEmpty (zPersons T v np) b np ↔ zEmpty v b np := fun b => by
    rw [zEmpty_iff, zEmpty_iff]
    refine forall_congr' fun q => forall_congr' fun hq => ?_
    rw [zPersons_far hT hO (by omega) np (Nat.le_refl _)]
  have cE : ∀ b, b ≤ ns → ∀ c, c < 9 → (zEmpty (zCools T np (zPersons T v np) b) c np ↔ zEmpty v c np) := fun b hb c hc => by
    rw [← hE c, zEmpty_iff, zEmpty_iff]
    refine forall_congr' fun q => forall_congr' fun hq => ?_
    rw [zCools_far (by omega) b (by omega)]
  have cH : ∀ c, c < 9 → ∀ b, b ≤ ns → zCools T np (zPersons T v np) b c = if c < b ∧ zEmpty v c np then zPersons T v np c - lossZ (T 1 c) (zPersons T v np c) else zPersons T v np c := fun c hc b => by
    induction b with
    | zero => intro _; rw [if_neg (fun z => absurd z.1 (Nat.not_lt_zero _))]; rfl
    | succ b ih =>
      intro hb
      have ih := ih (by omega)
      rw [zCools]
      by_cases e : c = b
      · subst e
        rw [if_neg (fun z => absurd z.1 (Nat.lt_irrefl _))] at ih
        by_cases z : zEmpty v c np
        · rw [zCool_yes ((cE c (by omega) c hc).mpr z), if_pos ⟨Nat.lt_succ_self _, z⟩]
          unfold zLoss
          rw [uz_ne (by omega), uz_eq, ih]
        · rw [zCool_no (fun y => z ((cE c (by omega) c hc).mp y)), if_neg (fun y => z y.2), ih]
      · rw [zCool_far e (by omega), ih]
        by_cases z : c < b ∧ zEmpty v c np
        · rw [if_pos z, if_pos ⟨by omega, z.2⟩]
        · rw [if_neg z, if_neg (fun y => z ⟨by omega, y.2⟩)]
  have fr : ∀ j, j ≠ 132 → zPass T ns np v j = zCools T np (zPersons T v np) ns j := fun j hj => by rw [zPass_min hT hO, uz_ne hj]
  refine ⟨fun p hp => ?_, fun p b hp hb hs => ?_, fun b hb he => ?_, fun p hp => ?_, fun p hp => ?_⟩
  · rw [fr _ (by omega), zCools_far (by omega) ns (by omega), h1 p hp, if_pos hp]
  · rw [fr _ (by omega), cH b (by omega) ns (Nat.le_refl _), if_neg (fun z => zEmpty_not hs hp z.2), h2 p b hp (by omega) hs, if_pos hp]
  · rw [fr _ (by omega), cH b (by omega) ns (Nat.le_refl _), if_pos ⟨hb, he⟩, h3 b (by omega) he]
  · rw [fr _ (by omega), zCools_far (by omega) ns (by omega), h4 p hp, if_pos hp]
  · rw [fr _ (by omega), zCools_far (by omega) ns (by omega), zPersons_far hT hO (by omega) np (Nat.le_refl _)]
end ONE
