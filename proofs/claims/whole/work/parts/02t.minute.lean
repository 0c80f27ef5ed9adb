/-! a minute: the minute's number may be counted last -/
theorem uz_comm {v : Nat → Int} {i j : Nat} {x y : Int} (h : i ≠ j) : uz (uz v i x) j y = uz (uz v j y) i x := by
  funext n
  unfold uz
  by_cases a : n = j
  · rw [if_pos a, if_neg (by omega), if_pos a]
  · rw [if_neg a]
    by_cases b : n = i
    · rw [if_pos b, if_pos b]
    · rw [if_neg b, if_neg b, if_neg a]
theorem zPerson_min {T : Nat → Nat → Int} {p : Nat} {v : Nat → Int} {x : Int} (hp : p < 8) (hs : v (20 + p) < 9) : zPerson T p (uz v 132 x) = uz (zPerson T p v) 132 x := by
  have cold : ∀ u : Nat → Int, zCold T p (uz u 132 x) = uz (zCold T p u) 132 x := fun u => by
    unfold zCold
    rw [uz_ne (by omega), uz_ne (by omega)]
    split
    · exact uz_comm (by omega)
    · rfl
  have frost : ∀ (u : Nat → Int) (s : Bool), zFrost T p s (uz u 132 x) = uz (zFrost T p s u) 132 x := fun u s => by
    unfold zFrost zFr
    rw [uz_ne (j := 10 + p) (by omega), uz_ne (i := 132) (j := 134) (by omega), uz_comm (i := 132) (j := 10 + p) (by omega), uz_comm (i := 132) (j := 134) (by omega)]
  unfold zPerson
  rw [uz_ne (j := 20 + p) (by omega)]
  split
  · rename_i hq
    have hb : (v (20 + p)).toNat < 9 := by omega
    have own : ∀ u : Nat → Int, zOwn p (v (20 + p)).toNat (uz u 132 x) = uz (zOwn p (v (20 + p)).toNat u) 132 x := fun u => by
      unfold zOwn
      rw [uz_ne (by omega), uz_ne (by omega)]
      split
      · exact uz_comm (by omega)
      · exact uz_comm (by omega)
    have sit : zSit T p (v (20 + p)).toNat (uz v 132 x) = uz (zSit T p (v (20 + p)).toNat v) 132 x := by
      unfold zSit
      rw [uz_ne (j := 10 + p) (by omega), uz_ne (i := 132) (by omega), uz_comm (i := 132) (j := (v (20 + p)).toNat) (by omega), uz_comm (i := 132) (j := 10 + p) (by omega)]
    rw [sit, own, frost, cold]
  · have fine : zFine T p (uz v 132 x) = uz (zFine T p v) 132 x := by
      unfold zFine
      rw [uz_ne (by omega), uz_comm (by omega)]
    rw [fine, frost, cold]
theorem zPersons_min {T : Nat → Nat → Int} {ns np : Nat} {k : Nat → Int} {M x : Int} {v : Nat → Int} (hT : TOK T ns np) (h : NOK T ns np k M v) : ∀ i, i ≤ np → zPersons T (uz v 132 x) i = uz (zPersons T v i) 132 x
  | 0, _ => rfl
  | i + 1, hi => by
    have hk := zPersons_ok hT h i (by omega)
    have hs := (hk.2.1 i (by omega)).2.1
    have h1 := hT.1
    have h2 := hT.2.1
    rw [zPersons, zPersons_min hT h i (by omega), zPerson_min (by omega) (by omega)]
    rfl
theorem zCool_min {T : Nat → Nat → Int} {np b : Nat} {v : Nat → Int} {x : Int} (hp : np ≤ 8) (hb : b < 9) : zCool T np b (uz v 132 x) = uz (zCool T np b v) 132 x := by
  have hE : zEmpty (uz v 132 x) b np ↔ zEmpty v b np := by
    rw [zEmpty_iff, zEmpty_iff]
    refine forall_congr' fun q => forall_congr' fun hq => ?_
    rw [uz_ne (by omega)]
  by_cases e : zEmpty v b np
  · rw [zCool_yes e, zCool_yes (hE.mpr e)]
    unfold zLoss
    rw [uz_ne (j := b) (by omega), uz_ne (i := 132) (j := 134) (by omega), uz_comm (i := 132) (j := b) (by omega), uz_comm (i := 132) (j := 134) (by omega)]
  · rw [zCool_no e, zCool_no (fun q => e (hE.mp q))]
theorem zCools_min {T : Nat → Nat → Int} {np : Nat} {v : Nat → Int} {x : Int} (hp : np ≤ 8) : ∀ b, b ≤ 9 → zCools T np (uz v 132 x) b = uz (zCools T np v b) 132 x
  | 0, _ => rfl
  | b + 1, hb => by
    rw [zCools, zCools_min hp b (by omega), zCool_min hp (by omega)]
    rfl
theorem zPass_min {T : Nat → Nat → Int} {ns np : Nat} {k : Nat → Int} {M : Int} {v : Nat → Int} (hT : TOK T ns np) (h : NOK T ns np k M v) : zPass T ns np v = uz (zCools T np (zPersons T v np) ns) 132 (v 132 + 1) := by
  have h1 := hT.1
  have h2 := hT.2.1
  unfold zPass
  rw [zPersons_min hT h np (Nat.le_refl np), zCools_min h2 ns h1]
theorem zCs_passC {T : Nat → Nat → Int} {ns np : Nat} {k : Nat → Int} {M : Int} {v : Nat → Int} (hT : TOK T ns np) (h : NOK T ns np k M v) : zCs T (zPass T ns np v) np = zCs T (zPersons T v np) np := by
  have h1 := hT.1
  have h2 := hT.2.1
  rw [zCs_pass hT, zPersons_min hT h np (Nat.le_refl np)]
  exact zCs_cong fun p hp => uz_ne (by omega)
section MIN
variable {T : Nat → Nat → Int} {ns np : Nat} {v X : Nat → Int} {k kk : Nat → Int} {M : Int} {ht wm se cd sl od ow : Nat → Int32} {lo mi sd : Int32} {nd0 : Int32}
theorem zCold_w (T : Nat → Nat → Int) (p : Nat) (X : Nat → Int) : zCold T p X (10 + p) = X (10 + p) := by
  unfold zCold; split
  · exact uz_ne (by omega)
  · rfl
theorem fin_no (hT : TOK T ns np) (hO : NOK T ns np kk M v) (hN : CN ns np X ht wm se cd sl od ow lo mi sd) {i : Nat} (hi : i < np) (e : zPersons T v (i + 1) = zCold T i X) (hn : nd0.toInt = T 3 i) (hc : nd0 ≤ wm i) :
    nI (zCs T (zPersons T v i) i) = nI (zCs T (zPersons T v (i + 1)) (i + 1)) ∧ CN ns np (zPersons T v (i + 1)) ht wm se cd sl od ow lo mi sd := by
  have h2 := hT.2.1
  have ew : (wm i).toInt = X (10 + i) := by rw [← hN.1.w hi, nuC_wm (by omega)]
  have hx : ¬ X (10 + i) < T 3 i := by have := (i_le hn ew).mp hc; omega
  constructor
  · rw [zCs, zCs_step hT hO hi, e, zCold_w, if_neg hx, Nat.add_zero]
  · rw [e]; unfold zCold; rw [if_neg hx]; exact hN
theorem fin_yes (hT : TOK T ns np) (hO : NOK T ns np kk M v) (hN : CN ns np X ht wm se cd sl od ow lo mi sd) (hX : NOK T ns np k M X) (hB : NB k M) {i : Nat} (hi : i < np) (e : zPersons T v (i + 1) = zCold T i X) (hn : nd0.toInt = T 3 i) (hc : ¬ nd0 ≤ wm i) :
    (nI (zCs T (zPersons T v i) i) ||| ((1 : Int32) <<< (nI i &&& 31))) = nI (zCs T (zPersons T v (i + 1)) (i + 1)) ∧ CN ns np (zPersons T v (i + 1)) ht wm se (upd cd i (cd i + 1)) sl od ow lo mi sd := by
  have h2 := hT.2.1
  have ew : (wm i).toInt = X (10 + i) := by rw [← hN.1.w hi, nuC_wm (by omega)]
  have hx : X (10 + i) < T 3 i := by
    have := mt (i_le hn ew).mpr hc
    omega
  constructor
  · rw [zCs, zCs_step hT hO hi, e, zCold_w, if_pos hx]
    exact bit_or i (by omega) _ (zCs_lt T _ i)
  · rw [e]; exact CN_coldY hT hN hX hB hi hx
/-- the stones that are taken, a bit each -/
theorem tk_0 {v : Nat → Int} : ∀ b, b < 9 → ((((0 : Int32) >>> (nI b &&& 31)) &&& 1) = 0 ↔ zEmpty v b 0) := fun b hb => by
  rw [b_test _ (by omega), b_0]
  exact ⟨fun _ => trivial, fun _ => rfl⟩
theorem tk_no {v : Nat → Int} {tk : Int32} {i : Nat} (h : ∀ b, b < 9 → (((tk >>> (nI b &&& 31)) &&& 1) = 0 ↔ zEmpty v b i)) (hs : v (20 + i) < 0) : ∀ b, b < 9 → (((tk >>> (nI b &&& 31)) &&& 1) = 0 ↔ zEmpty v b (i + 1)) := fun b hb => by
  rw [h b hb, zEmpty]
  exact ⟨fun q => ⟨q, by omega⟩, fun q => q.1⟩
theorem tk_yes {v : Nat → Int} {tk : Int32} {i c : Nat} (h : ∀ b, b < 9 → (((tk >>> (nI b &&& 31)) &&& 1) = 0 ↔ zEmpty v b i)) (hc : c < 9) (hs : v (20 + i) = (c : Int)) : ∀ b, b < 9 → ((((tk ||| ((1 : Int32) <<< (nI c &&& 31))) >>> (nI b &&& 31)) &&& 1) = 0 ↔ zEmpty v b (i + 1)) := fun b hb => by
  have hh := h b hb
  rw [b_test _ (by omega)] at hh
  rw [b_test _ (by omega), b_or, b_bit (by omega) (by omega), zEmpty, ← hh, hs]
  by_cases e : b = c
  · subst e; simp
  · simp [e]; omega
end MIN
