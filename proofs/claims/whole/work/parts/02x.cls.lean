/-! the class's night: seats, seed, copies -/
theorem l_and31 {x : Int64} {z : Int} (h : x.toInt = z) (h0 : 0 ≤ z) : (x &&& 2147483647).toInt = z % 2147483648 := by
  have hx := fb_rngL x
  have e1 : x.toInt = (x.toBitVec.toNat : Int) := by
    show x.toBitVec.toInt = _
    rw [BitVec.toInt_eq_toNat_of_lt]
    have h3 : x.toBitVec.toInt = x.toInt := rfl
    rcases Nat.lt_or_ge (2 * x.toBitVec.toNat) (2 ^ 64) with q | q
    · exact q
    · have := BitVec.toInt_eq_toNat_cond x.toBitVec
      rw [if_neg (by omega)] at this
      omega
  have e2 : (x &&& 2147483647).toBitVec.toNat = x.toBitVec.toNat % 2147483648 := by
    rw [Int64.toBitVec_and, BitVec.toNat_and]
    show x.toBitVec.toNat &&& 2147483647 = _
    exact Nat.and_two_pow_sub_one_eq_mod _ 31
  have e3 : (x &&& 2147483647).toInt = ((x &&& 2147483647).toBitVec.toNat : Int) := by
    show (x &&& 2147483647).toBitVec.toInt = _
    rw [BitVec.toInt_eq_toNat_of_lt]
    rw [e2]
    have := Nat.mod_lt x.toBitVec.toNat (show 0 < 2147483648 by omega)
    omega
  rw [e3, e2, ← h, e1]
  omega
section CN2
variable {T : Nat → Nat → Int} {ns np : Nat} {v u : Nat → Int} {k : Nat → Int} {M : Int} {ht wm se cd sl od ow : Nat → Int32} {lo mi sd : Int32} {n0 p0 fu fd fi : Int32} {sz pt kd nd : Nat → Int32}
theorem CN.ag (hN : CN ns np v ht wm se cd sl od ow lo mi sd) (h : agr ns np v u) : CN ns np u ht wm se cd sl od ow lo mi sd := ⟨fun i hi => (hN.1 i hi).trans (h i hi), hN.2⟩
theorem CN_seat (hN : CN ns np v ht wm se cd sl od ow lo mi sd) (h2 : np ≤ 8) {p : Nat} (hp : p < np) {x : Int32} {z : Int} (hz : x.toInt = z) : CN ns np (uz v (20 + p) z) ht wm (upd se p x) cd sl od ow lo mi sd := by
  refine ⟨?_, hN.2.1, fun q h1 h2 => ?_⟩
  · rw [nuC_use (by omega)]; exact hN.1.uz hz
  · rw [upd_ne (by omega)]; exact hN.2.2 q h1 h2
theorem CN_seed (hN : CN ns np v ht wm se cd sl od ow lo mi sd) {x : Int32} {z : Int} (hz : x.toInt = z) : CN ns np (uz v 133 z) ht wm se cd sl od ow lo mi x := by
  refine ⟨?_, hN.2⟩
  rw [nuC_usd (sd := sd)]; exact hN.1.uz hz
theorem CN_ow (hN : CN ns np v ht wm se cd sl od ow lo mi sd) {i : Nat} (hi : i < 72) {x : Int32} {z : Int} (hz : x.toInt = z) : CN ns np (uz v (60 + i) z) ht wm se cd sl od (upd ow i x) lo mi sd := by
  refine ⟨?_, hN.2⟩
  rw [nuC_uow hi]; exact hN.1.uz hz
theorem CN_od (hN : CN ns np v ht wm se cd sl od ow lo mi sd) {i : Nat} (hi : i < 8) {x : Int32} {z : Int} (hz : x.toInt = z) : CN ns np (uz v (50 + i) z) ht wm se cd sl (upd od i x) ow lo mi sd := by
  refine ⟨?_, hN.2⟩
  rw [nuC_uod (by omega)]; exact hN.1.uz hz
theorem CN_sl (hN : CN ns np v ht wm se cd sl od ow lo mi sd) {i : Nat} (hi : i < 8) {x : Int32} {z : Int} (hz : x.toInt = z) : CN ns np (uz v (40 + i) z) ht wm se cd (upd sl i x) od ow lo mi sd := by
  refine ⟨?_, hN.2⟩
  rw [nuC_usl (by omega)]; exact hN.1.uz hz
theorem CN.h (hN : CN ns np v ht wm se cd sl od ow lo mi sd) (h9 : ns ≤ 9) {b : Nat} (hb : b < ns) : (ht b).toInt = v b := by rw [← hN.1.b hb, nuC_ht (by omega)]
theorem CN.w (hN : CN ns np v ht wm se cd sl od ow lo mi sd) (h9 : np ≤ 8) {p : Nat} (hb : p < np) : (wm p).toInt = v (10 + p) := by rw [← hN.1.w hb, nuC_wm (by omega)]
theorem CN.s (hN : CN ns np v ht wm se cd sl od ow lo mi sd) (h9 : np ≤ 8) {p : Nat} (hb : p < np) : (se p).toInt = v (20 + p) := by rw [← hN.1.s hb, nuC_se (by omega)]
theorem CN.c (hN : CN ns np v ht wm se cd sl od ow lo mi sd) (h9 : np ≤ 8) {p : Nat} (hb : p < np) : (cd p).toInt = v (30 + p) := by rw [← hN.1.c hb, nuC_cd (by omega)]
theorem CN.l (hN : CN ns np v ht wm se cd sl od ow lo mi sd) (h9 : np ≤ 8) {p : Nat} (hb : p < np) : (sl p).toInt = v (40 + p) := by rw [← hN.1.l hb, nuC_sl (by omega)]
theorem CN.d (hN : CN ns np v ht wm se cd sl od ow lo mi sd) (h9 : np ≤ 8) {p : Nat} (hb : p < np) : (od p).toInt = v (50 + p) := by rw [← hN.1.d hb, nuC_od (by omega)]
theorem CN.o (hN : CN ns np v ht wm se cd sl od ow lo mi sd) (h9 : np ≤ 8) (h8 : ns ≤ 9) {p b : Nat} (hp : p < np) (hb : b < ns) : (ow (9 * p + b)).toInt = v (60 + (9 * p + b)) := by rw [← hN.1.o hp hb, nuC_ow (by omega)]
theorem CN.m (hN : CN ns np v ht wm se cd sl od ow lo mi sd) : mi.toInt = v 132 := by rw [← hN.1.m, nuC_mi]
theorem CN.e (hN : CN ns np v ht wm se cd sl od ow lo mi sd) : sd.toInt = v 133 := by rw [← hN.1.e, nuC_sd]
theorem CN.x (hN : CN ns np v ht wm se cd sl od ow lo mi sd) : lo.toInt = v 134 := by rw [← hN.1.x, nuC_lo]
theorem CN_cpy {ht2 wm2 se2 cd2 sl2 od2 ow2 : Nat → Int32} (hN : CN ns np v ht wm se cd sl od ow lo mi sd) (h9 : ns ≤ 9) (h8 : np ≤ 8) : CN ns np v (va_cpy ht ht2 0 0 9) (va_cpy wm wm2 0 0 8) (va_cpy se se2 0 0 8) (va_cpy cd cd2 0 0 8) (va_cpy sl sl2 0 0 8) (va_cpy od od2 0 0 8) (va_cpy ow ow2 0 0 72) lo mi sd := by
  have c : ∀ (f g : Nat → Int32) (n i : Nat), i < n → va_cpy f g 0 0 n i = f i := fun f g n i hi => by
    unfold va_cpy
    rw [if_pos (by omega)]
    congr 1
    omega
  refine ⟨fun i hi => ?_, fun b h1 h2 => ?_, fun p h1 h2 => ?_⟩
  · rw [← hN.1 i hi]
    rcases hi with h | h | h | h | h | h | ⟨p, b, hp, hb, rfl⟩ | h | h | h
    · rw [nuC_ht (by omega), nuC_ht (by omega), c _ _ _ _ (by omega)]
    · obtain ⟨q, rfl⟩ : ∃ q, i = 10 + q := ⟨i - 10, by omega⟩
      rw [nuC_wm (by omega), nuC_wm (by omega), c _ _ _ _ (by omega)]
    · obtain ⟨q, rfl⟩ : ∃ q, i = 20 + q := ⟨i - 20, by omega⟩
      rw [nuC_se (by omega), nuC_se (by omega), c _ _ _ _ (by omega)]
    · obtain ⟨q, rfl⟩ : ∃ q, i = 30 + q := ⟨i - 30, by omega⟩
      rw [nuC_cd (by omega), nuC_cd (by omega), c _ _ _ _ (by omega)]
    · obtain ⟨q, rfl⟩ : ∃ q, i = 40 + q := ⟨i - 40, by omega⟩
      rw [nuC_sl (by omega), nuC_sl (by omega), c _ _ _ _ (by omega)]
    · obtain ⟨q, rfl⟩ : ∃ q, i = 50 + q := ⟨i - 50, by omega⟩
      rw [nuC_od (by omega), nuC_od (by omega), c _ _ _ _ (by omega)]
    · rw [nuC_ow (by omega), nuC_ow (by omega), c _ _ _ _ (by omega)]
    · subst h; rw [nuC_mi, nuC_mi]
    · subst h; rw [nuC_sd, nuC_sd]
    · subst h; rw [nuC_lo, nuC_lo]
  · rw [c _ _ _ _ (by omega)]; exact hN.2.1 b h1 h2
  · rw [c _ _ _ _ (by omega), c _ _ _ _ (by omega), c _ _ _ _ (by omega)]; exact hN.2.2 p h1 h2
end CN2
/-- a night's beginning: T 5 are the stones' first heats, T 6 the persons' first warmths -/
def zBeg (T : Nat → Nat → Int) (s : Int) : Nat → Int := fun i => if i < 10 then T 5 i else if i < 20 then T 6 (i - 10) else if i < 30 then -1 else if i = 133 then s else 0
/-- has (class): within bounds -/
theorem hs_iff {x m : Int32} {n : Nat} (hm : m = nI n) (hn : n < 1000) : (¬ x < 0 ∧ ¬ m ≤ x) ↔ (0 ≤ x.toInt ∧ x.toInt < n) := by
  have em : m.toInt = (n : Int) := by rw [hm]; exact nI_toInt (by omega)
  rw [i_lt (show x.toInt = x.toInt from rfl) i32_0, i_le em rfl]
  omega
theorem wi_iff {x y z : Int32} {a b : Int} (hy : y.toInt = a) (hz : z.toInt = b) : (¬ x < y ∧ ¬ z < x) ↔ (a ≤ x.toInt ∧ x.toInt ≤ b) := by
  rw [i_lt (show x.toInt = x.toInt from rfl) hy, i_lt hz rfl]
  omega
/-- what tells of a town is all that counts -/
theorem NOK_ag {T : Nat → Nat → Int} {ns np : Nat} {k : Nat → Int} {M : Int} {v u : Nat → Int} (h : NOK T ns np k M v) (g : agr ns np v u) : NOK T ns np k M u := by
  obtain ⟨h1, h2, h3, h4, h5, h6, h7, h8⟩ := h
  refine ⟨fun c hc => ?_, fun q hq => ?_, fun q r hq hr hn he => ?_, fun q c hq hc => ?_, ?_, ?_, ?_, ?_⟩
  · rw [← g.b hc]; exact h1 c hc
  · rw [← g.w hq, ← g.s hq, ← g.c hq, ← g.l hq, ← g.d hq]; exact h2 q hq
  · rw [← g.s hq] at he ⊢
    rw [← g.s hr] at he
    exact h3 q r hq hr hn he
  · rw [← g.o hq hc]; exact h4 q c hq hc
  · rw [← g.m]; exact h5
  · rw [← g.e]; exact h6
  · rw [← g.x]; exact h7
  · rw [← g.x, ← zSum_cong (v := v) (u := u) (fun i hi => by rw [Nat.zero_add]; exact g.b hi), ← zSum_cong (v := v) (u := u) (fun i hi => g.w hi)]; exact h8
theorem nI_ne_neg {n : Nat} (h : n < 2 ^ 31) : ¬ nI n = -1 := fun z => by
  have := nI_toInt h
  rw [z, show (-1 : Int32).toInt = -1 from rfl] at this
  omega
def SumP (f : Nat → Int32) (v : Nat → Int) (o nn N : Nat) : Prop := (∀ i, i < nn → (f i).toInt = v (o + i)) ∧ (∀ i, nn ≤ i → i < N → f i = 0) ∧ nn ≤ N ∧ (∀ i, i < nn → 0 ≤ v (o + i) ∧ v (o + i) ≤ 20000000)
