/-! seatings, as the reference tries them -/
def zLw (v : Nat → Int) : Nat → Int
  | 0 => 9999
  | n + 1 => minZ (zLw v n) (v (10 + n))
def sSt (v : Nat → Int) (D : Nat → Nat) : Nat → Nat → Int
  | 0 => zUp v
  | i + 1 => uz (sSt v D i) (20 + i) ((D i : Int) - 1)
section SST
variable {T : Nat → Nat → Int} {v : Nat → Int} {m ns np : Nat} {D : Nat → Nat} {M : Int}
theorem sSt_o {j : Nat} : ∀ {i : Nat}, (j < 20 ∨ 20 + i ≤ j) → sSt v D i j = zUp v j
  | 0, _ => rfl
  | i + 1, h => by rw [sSt, uz_ne (by omega), sSt_o (by omega)]
theorem sSt_s {q : Nat} : ∀ {i : Nat}, q < i → sSt v D i (20 + q) = (D q : Int) - 1
  | 0, h => absurd h (Nat.not_lt_zero _)
  | i + 1, h => by
    rw [sSt]
    by_cases e : q = i
    · subst e; rw [uz_eq]
    · rw [uz_ne (by omega), sSt_s (by omega)]
theorem sSt_ok (hT : TOK T ns np) (hO : NOK T ns np (fun _ => 2 * M) M v) : ∀ i, i ≤ np → okB ns D i = true → NOK T ns np (fun _ => 2 * M) M (sSt v D i)
  | 0, _, _ => zUp_ok hT hO
  | i + 1, hi, h => by
    have t2 := hT.2.1
    have hl := okB_le (p := i) h (by omega)
    rw [sSt]
    refine NOK_seat hT (sSt_ok hT hO i (by omega) (okB_pre (by omega) h)) (by omega) ?_
    by_cases e : D i = 0
    · left; omega
    · right
      refine ⟨by omega, by omega, fun q hq hne => ?_⟩
      rcases Nat.lt_or_ge q i with l | l
      · rw [sSt_s l]
        have := okB_ne (p := i) h (by omega) l e
        omega
      · rw [sSt_o (by omega), zUp_s (by omega)]; omega
theorem sSt_fin (hT : TOK T ns np) (hO : NOK T ns np (fun _ => 2 * M) M v) (hok : okB ns D np = true) : (∀ p, p < np → zGo T ns np (sSt v D np) m (30 + p) = sGc T v m p (D p)) ∧ (∀ p, p < np → zGo T ns np (sSt v D np) m (10 + p) = sGw T v m p (D p)) := by
  have t1 := hT.1
  have t2 := hT.2.1
  obtain ⟨-, g2, -, -, g5⟩ := zGo_split hT (sSt_ok hT hO np (Nat.le_refl _) hok) m
  have hs : ∀ p, p < np → sSt v D np (20 + p) = (D p : Int) - 1 := fun p hp => sSt_s hp
  have hw : ∀ p, p < np → sSt v D np (10 + p) = v (10 + p) := fun p hp => by rw [sSt_o (by omega), zUp_o (by omega)]
  have hc : ∀ p, p < np → sSt v D np (30 + p) = 0 := fun p hp => by rw [sSt_o (by omega), zUp_c (by omega)]
  have hh : ∀ p, p < np → D p ≠ 0 → sSt v D np ((D p : Int) - 1).toNat = v (D p - 1) := fun p hp h0 => by
    have hl := okB_le (p := p) hok hp
    rw [show ((D p : Int) - 1).toNat = D p - 1 by omega, sSt_o (by omega), zUp_o (by omega)]
  refine ⟨fun p hp => ?_, fun p hp => ?_⟩
  · rw [g5 p hp, hc p hp, hs p hp, hw p hp, Int.zero_add]
    unfold sGc sH
    by_cases e : D p = 0
    · exact zCm_up1 (by omega) m
    · rw [if_neg e, hh p hp e]
  · rw [g2 p hp, hs p hp, hw p hp]
    unfold sGw sH
    by_cases e : D p = 0
    · exact zSts_up1 (by omega) m
    · rw [if_neg e, hh p hp e]
theorem zSum_sCo {u : Nat → Int} : ∀ {n : Nat}, (∀ p, p < n → u (30 + p) = sGc T v m p (D p)) → zSum u 30 n = sCo T v m D n
  | 0, _ => rfl
  | n + 1, h => by rw [zSum, sCo, zSum_sCo (fun p hp => h p (by omega)), h n (by omega)]
theorem zLw_sLe {u : Nat → Int} : ∀ {n : Nat}, (∀ p, p < n → u (10 + p) = sGw T v m p (D p)) → zLw u n = sLe T v m D n
  | 0, _ => rfl
  | n + 1, h => by rw [zLw, sLe, zLw_sLe (fun p hp => h p (by omega)), h n (by omega)]
end SST
/-- the reference's best seating so far -/
def MSel (S : Option (Int × Int × Nat)) (b : Int32) (f w : Int64) : Prop :=
  match S with
  | none => b = -1
  | some (x, y, c) => b = nI c ∧ c < 10000 ∧ f.toInt = x ∧ w.toInt = y ∧ 0 ≤ x ∧ x ≤ 240 ∧ 0 ≤ y ∧ y ≤ 9999
theorem mSel_step {T : Nat → Nat → Int} {v : Nat → Int} {m ns np c : Nat} {S : Option (Int × Int × Nat)} {b : Int32} {f w x y : Int64} (h : MSel S b f w) (hc : c < 10000) (hok : okB ns (dg np c) np = true) (hx : x.toInt = sCo T v m (dg np c) np) (hx1 : 0 ≤ x.toInt) (hx2 : x.toInt ≤ 240) (hy : y.toInt = sLe T v m (dg np c) np) (hy1 : 0 ≤ y.toInt) (hy2 : y.toInt ≤ 9999) :
    ((b < 0 ∨ x < f ∨ (x = f ∧ w < y)) → MSel (sStep T v m ns np c S) (nI c) x y) ∧ (¬ (b < 0 ∨ x < f ∨ (x = f ∧ w < y)) → MSel (sStep T v m ns np c S) b f w) := by
  unfold sStep
  rw [if_pos hok]
  cases S with
  | none =>
    have hb : b = -1 := h
    refine ⟨fun _ => ⟨rfl, hc, hx, hy, by omega, by omega, by omega, by omega⟩, fun z => absurd (Or.inl (by rw [hb]; decide)) z⟩
  | some t =>
    obtain ⟨a, d, k⟩ := t
    obtain ⟨h1, h2, h3, h4, h5, h6, h7, h8⟩ := h
    have hb : ¬ b < 0 := by
      rw [i_lt (show b.toInt = (k : Int) by rw [h1]; exact nI_toInt (by omega)) i32_0]; omega
    have hcn : (b < 0 ∨ x < f ∨ (x = f ∧ w < y)) ↔ (sCo T v m (dg np c) np < a ∨ (sCo T v m (dg np c) np = a ∧ d < sLe T v m (dg np c) np)) := by
      rw [l_lt hx h3, l_eq hx h3, l_lt h4 hy]
      exact ⟨fun z => z.elim (fun q => absurd q hb) id, Or.inr⟩
    dsimp only
    by_cases q : sCo T v m (dg np c) np < a ∨ (sCo T v m (dg np c) np = a ∧ d < sLe T v m (dg np c) np)
    · rw [if_pos q]
      exact ⟨fun _ => ⟨rfl, hc, hx, hy, by omega, by omega, by omega, by omega⟩, fun z => absurd (hcn.mpr q) z⟩
    · rw [if_neg q]
      exact ⟨fun z => absurd (hcn.mp z) q, fun _ => ⟨h1, h2, h3, h4, h5, h6, h7, h8⟩⟩
theorem sF_some {T : Nat → Nat → Int} {v : Nat → Int} {m ns np : Nat} {s : Option (Int × Int × Nat)} {lo : Nat} : ∀ {n : Nat}, s ≠ none → sF T v m ns np s lo n ≠ none
  | 0, h => h
  | n + 1, h => by
    have ih := sF_some (T := T) (v := v) (m := m) (ns := ns) (np := np) (lo := lo) (n := n) h
    rw [sF]
    unfold sStep
    cases g : sF T v m ns np s lo n with
    | none => exact absurd g ih
    | some t =>
      obtain ⟨a, b, k⟩ := t
      dsimp only
      split
      · split <;> exact Option.some_ne_none _
      · exact Option.some_ne_none _
theorem okB_zero {ns np : Nat} : ∀ n : Nat, okB ns (dg np 0) n = true
  | 0 => rfl
  | n + 1 => by
    have e : dg np 0 n = 0 := by unfold dg; rw [Nat.zero_div]
    rw [okB, okB_zero n, e]
    simp
/-- nobody seated is a seating: there is a best one -/
theorem sF_all {T : Nat → Nat → Int} {v : Nat → Int} {m ns np : Nat} : ∀ {n : Nat}, 0 < n → sF T v m ns np none 0 n ≠ none
  | 0, h => absurd h (Nat.lt_irrefl _)
  | n + 1, _ => by
    rw [Nat.add_comm, sF_add]
    refine sF_some ?_
    rw [sF_one]
    unfold sStep
    rw [if_pos (okB_zero np)]
    exact Option.some_ne_none _
theorem nI_div10 {a : Nat} (h : a < 1000000) : nI a / 10 = nI (a / 10) := by
  rw [← Int32.toInt_inj, i_div (nI_toInt (by omega)) (show (10 : Int32).toInt = 10 from rfl) (by omega), nI_toInt (by omega)]
  unfold dvZ
  rw [if_pos (by omega)]
  omega
theorem nI_m1 {k : Nat} (h : k < 1000000) (h0 : 0 < k) : nI k + (-1) = nI (k - 1) := by
  rw [← Int32.toInt_inj, i_add (nI_toInt (by omega)) (show (-1 : Int32).toInt = -1 from rfl) (by omega) (by omega), nI_toInt (by omega)]
  omega
