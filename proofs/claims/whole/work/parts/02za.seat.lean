/-! seatings: a code's digit d is the seat d - 1 -/
def sH (v : Nat → Int) (d : Nat) : Int := if d = 0 then 0 else v (d - 1)
def sGc (T : Nat → Nat → Int) (v : Nat → Int) (m p d : Nat) : Int := zCm T p ((d : Int) - 1) (v (10 + p), sH v d) m
def sGw (T : Nat → Nat → Int) (v : Nat → Int) (m p d : Nat) : Int := (zSts T p ((d : Int) - 1) (v (10 + p), sH v d) m).1
def dg (np c p : Nat) : Nat := c / 10 ^ (np - 1 - p) % 10
def usd (D : Nat → Nat) (x : Nat) : Nat → Bool
  | 0 => false
  | q + 1 => usd D x q || decide (D q = x)
def okB (ns : Nat) (D : Nat → Nat) : Nat → Bool
  | 0 => true
  | p + 1 => okB ns D p && decide (D p ≤ ns) && (decide (D p = 0) || !usd D (D p) p)
def sCo (T : Nat → Nat → Int) (v : Nat → Int) (m : Nat) (D : Nat → Nat) : Nat → Int
  | 0 => 0
  | p + 1 => sCo T v m D p + sGc T v m p (D p)
def sLe (T : Nat → Nat → Int) (v : Nat → Int) (m : Nat) (D : Nat → Nat) : Nat → Int
  | 0 => 9999
  | p + 1 => minZ (sLe T v m D p) (sGw T v m p (D p))
def sStep (T : Nat → Nat → Int) (v : Nat → Int) (m ns np c : Nat) (s : Option (Int × Int × Nat)) : Option (Int × Int × Nat) :=
  if okB ns (dg np c) np then
    (match s with
    | none => some (sCo T v m (dg np c) np, sLe T v m (dg np c) np, c)
    | some (a, b, k) => if sCo T v m (dg np c) np < a ∨ (sCo T v m (dg np c) np = a ∧ b < sLe T v m (dg np c) np) then some (sCo T v m (dg np c) np, sLe T v m (dg np c) np, c) else some (a, b, k))
  else s
def sF (T : Nat → Nat → Int) (v : Nat → Int) (m ns np : Nat) (s : Option (Int × Int × Nat)) (lo : Nat) : Nat → Option (Int × Int × Nat)
  | 0 => s
  | n + 1 => sStep T v m ns np (lo + n) (sF T v m ns np s lo n)
section SEAT
variable {T : Nat → Nat → Int} {v : Nat → Int} {m ns np : Nat} {s : Option (Int × Int × Nat)}
theorem sF_add {lo : Nat} (a : Nat) : ∀ b, sF T v m ns np s lo (a + b) = sF T v m ns np (sF T v m ns np s lo a) (lo + a) b
  | 0 => rfl
  | b + 1 => by
    show sStep T v m ns np (lo + (a + b)) (sF T v m ns np s lo (a + b)) = sStep T v m ns np (lo + a + b) _
    rw [sF_add a b, Nat.add_assoc]
theorem sF_bad {lo : Nat} : ∀ {n : Nat}, (∀ c, lo ≤ c → c < lo + n → okB ns (dg np c) np = false) → sF T v m ns np s lo n = s
  | 0, _ => rfl
  | n + 1, h => by
    rw [sF, sF_bad (fun c h1 h2 => h c h1 (by omega))]
    unfold sStep
    rw [if_neg (by rw [h (lo + n) (by omega) (by omega)]; decide)]
theorem dg_lt (np c p : Nat) : dg np c p < 10 := Nat.mod_lt _ (by omega)
theorem usd_iff {D : Nat → Nat} {x : Nat} : ∀ {n : Nat}, usd D x n = true ↔ ∃ q, q < n ∧ D q = x
  | 0 => ⟨fun h => absurd h Bool.false_ne_true, fun ⟨q, h, _⟩ => absurd h (Nat.not_lt_zero _)⟩
  | n + 1 => by
    rw [usd, Bool.or_eq_true, usd_iff, decide_eq_true_iff]
    constructor
    · rintro (⟨q, h1, h2⟩ | h)
      · exact ⟨q, by omega, h2⟩
      · exact ⟨n, by omega, h⟩
    · rintro ⟨q, h1, h2⟩
      rcases Nat.lt_or_ge q n with l | l
      · exact Or.inl ⟨q, l, h2⟩
      · have e : q = n := by omega
        subst e
        exact Or.inr h2
theorem usd_cong {D E : Nat → Nat} {x n : Nat} (h : ∀ q, q < n → D q = E q) : usd D x n = usd E x n := by
  induction n with
  | zero => rfl
  | succ n ih => rw [usd, usd, ih (fun q hq => h q (by omega)), h n (by omega)]
theorem okB_cong {D E : Nat → Nat} {n : Nat} (h : ∀ q, q < n → D q = E q) : okB ns D n = okB ns E n := by
  induction n with
  | zero => rfl
  | succ n ih => rw [okB, okB, ih (fun q hq => h q (by omega)), h n (by omega), usd_cong (fun q hq => h q (by omega))]
theorem okB_pre {D : Nat → Nat} {p : Nat} : ∀ {n : Nat}, p ≤ n → okB ns D n = true → okB ns D p = true
  | 0, h, g => by rw [show p = 0 by omega]; exact g
  | n + 1, h, g => by
    by_cases e : p = n + 1
    · rw [e]; exact g
    · rw [okB, Bool.and_eq_true, Bool.and_eq_true] at g
      exact okB_pre (by omega) g.1.1
theorem okB_le {D : Nat → Nat} {n p : Nat} (h : okB ns D n = true) (hp : p < n) : D p ≤ ns := by
  have := okB_pre (p := p + 1) (by omega) h
  rw [okB, Bool.and_eq_true, Bool.and_eq_true, decide_eq_true_iff] at this
  exact this.1.2
theorem okB_ne {D : Nat → Nat} {n p q : Nat} (h : okB ns D n = true) (hp : p < n) (hq : q < p) (h0 : D p ≠ 0) : D q ≠ D p := by
  have := okB_pre (p := p + 1) (by omega) h
  rw [okB, Bool.and_eq_true, Bool.or_eq_true, decide_eq_true_iff] at this
  rcases this.2 with e | e
  · exact absurd e h0
  · rw [Bool.not_eq_true'] at e
    intro z
    have : usd D (D p) p = true := usd_iff.mpr ⟨q, hq, z⟩
    rw [e] at this
    exact absurd this (by decide)
theorem sCo_cong {D E : Nat → Nat} {n : Nat} (h : ∀ q, q < n → D q = E q) : sCo T v m D n = sCo T v m E n := by
  induction n with
  | zero => rfl
  | succ n ih => rw [sCo, sCo, ih (fun q hq => h q (by omega)), h n (by omega)]
theorem sLe_cong {D E : Nat → Nat} {n : Nat} (h : ∀ q, q < n → D q = E q) : sLe T v m D n = sLe T v m E n := by
  induction n with
  | zero => rfl
  | succ n ih => rw [sLe, sLe, ih (fun q hq => h q (by omega)), h n (by omega)]
/-- the digits of a code in a block are those of the block's beginning -/
theorem dg_blk {np p pc c q : Nat} (hp : p ≤ np) (hq : q < p) (h1 : pc * 10 ^ (np - p) ≤ c) (h2 : c < (pc + 1) * 10 ^ (np - p)) : dg np c q = dg p pc q := by
  have e : c / 10 ^ (np - p) = pc := by
    rw [Nat.div_eq_iff (Nat.pow_pos (by omega))]
    have : (pc + 1) * 10 ^ (np - p) = pc * 10 ^ (np - p) + 10 ^ (np - p) := by rw [Nat.add_mul, Nat.one_mul]
    omega
  unfold dg
  rw [show np - 1 - q = (np - p) + (p - 1 - q) by omega, Nat.pow_add, ← Nat.div_div_eq_div_mul, e]
theorem dg_sn {p pc d : Nat} (hd : d < 10) : dg (p + 1) (pc * 10 + d) p = d := by
  unfold dg
  rw [show p + 1 - 1 - p = 0 by omega, Nat.pow_zero, Nat.div_one]
  omega
theorem dg_so {p pc d q : Nat} (hd : d < 10) (hq : q < p) : dg (p + 1) (pc * 10 + d) q = dg p pc q := by
  refine dg_blk (np := p + 1) (p := p) (by omega) hq ?_ ?_
  · rw [show p + 1 - p = 1 by omega, Nat.pow_one]; omega
  · rw [show p + 1 - p = 1 by omega, Nat.pow_one]; omega
theorem zSts_up1 {p : Nat} {x : Int} {a b c : Int} (hx : x < 0) : ∀ n, (zSts T p x (a, b) n).1 = (zSts T p x (a, c) n).1
  | 0 => rfl
  | n + 1 => by rw [zSts, zSts, zSt_up hx, zSt_up hx, zSts_up1 hx n]
theorem zCm_up1 {p : Nat} {x : Int} {a b c : Int} (hx : x < 0) : ∀ n, zCm T p x (a, b) n = zCm T p x (a, c) n
  | 0 => rfl
  | n + 1 => by rw [zCm, zCm, zCm_up1 hx n, zSts_up1 (c := c) hx (n + 1)]
theorem zCm_bd {p : Nat} {x : Int} {a : Int × Int} (n : Nat) : 0 ≤ zCm T p x a n ∧ zCm T p x a n ≤ n := by
  induction n with
  | zero => exact ⟨Int.le_refl _, Int.le_refl _⟩
  | succ n ih =>
    rw [zCm]
    split <;> omega
theorem sSOK {k : Nat → Int} {M : Int} (hT : TOK T ns np) (hO : NOK T ns np k M v) {p d : Nat} (hp : p < np) (hd : d ≤ ns) : SOK T ns ((d : Int) - 1) (v (10 + p), sH v d) := by
  have bw := (hO.2.1 p hp).1
  refine ⟨bw.1, bw.2, by omega, by omega, fun h => ?_⟩
  have e : ((d : Int) - 1).toNat = d - 1 := by omega
  rw [e]
  unfold sH
  dsimp only
  rw [if_neg (by omega)]
  exact hO.1 (d - 1) (by omega)
theorem sGw_bd {k : Nat → Int} {M : Int} (hT : TOK T ns np) (hO : NOK T ns np k M v) {p d : Nat} (hp : p < np) (hd : d ≤ ns) : 0 ≤ sGw T v m p d ∧ sGw T v m p d ≤ 9999 := by
  have := zSts_ok hT hp (sSOK hT hO hp hd) m
  exact ⟨this.1, this.2.1⟩
theorem sCo_bd {D : Nat → Nat} : ∀ n : Nat, 0 ≤ sCo T v m D n ∧ sCo T v m D n ≤ n * m
  | 0 => ⟨Int.le_refl _, by simp [sCo]⟩
  | n + 1 => by
    have a := sCo_bd (D := D) n
    have b := zCm_bd (T := T) (p := n) (x := (D n : Int) - 1) (a := (v (10 + n), sH v (D n))) m
    have e : ((n + 1 : Nat) : Int) * m = n * m + m := by rw [Int.natCast_add, Int.add_mul]; simp
    rw [sCo, e]
    unfold sGc
    omega
theorem sLe_bd {k : Nat → Int} {M : Int} (hT : TOK T ns np) (hO : NOK T ns np k M v) {D : Nat → Nat} : ∀ n : Nat, n ≤ np → (∀ q, q < n → D q ≤ ns) → 0 ≤ sLe T v m D n ∧ sLe T v m D n ≤ 9999
  | 0, _, _ => ⟨show (0 : Int) ≤ 9999 by decide, Int.le_refl _⟩
  | n + 1, hn, h => by
    have a := sLe_bd hT hO (D := D) n (by omega) (fun q hq => h q (by omega))
    have b := sGw_bd (m := m) hT hO (show n < np by omega) (h n (by omega))
    rw [sLe]
    unfold minZ
    split <;> omega
end SEAT
noncomputable def aSeating (T : Nat → Nat → Int) (ns np : Nat) (v : Nat → Int) (m what : Int) : Int :=
  if ¬ (1 ≤ m ∧ m ≤ 60) ∨ ¬ (0 ≤ what ∧ what ≤ np + 1) then -1000000002
  else if ¬ (1 ≤ np ∧ np ≤ 4) then -1000000003
  else match sF T v m.toNat ns np none 0 (10 ^ np) with
    | none => 0
    | some (a, b, c) => if what = 0 then a else if what = 1 then b else (dg np c (what - 2).toNat : Int) - 1
def SRel (np : Nat) (S : Option (Int × Int × Nat)) (bc bl : Int32) (be : Nat → Int32) : Prop :=
  match S with
  | none => bc = 241
  | some (a, b, c) => bc.toInt = a ∧ bl.toInt = b ∧ a ≤ 240 ∧ ∀ q, q < np → (be q).toInt = (dg np c q : Int) - 1
def sTab (T : Nat → Nat → Int) (v : Nat → Int) (m ns np : Nat) (co wo : Nat → Int32) : Prop := ∀ p, p < np → ∀ d, d ≤ ns → (co (10 * p + d)).toInt = sGc T v m p d ∧ (wo (10 * p + d)).toInt = sGw T v m p d
theorem nm_i {d : Nat} (h : d < 1000) : (nI d - 1).toInt = (d : Int) - 1 := i_sub (nI_toInt (by omega)) i32_1 (by omega) (by omega)
theorem nm_1 (d : Nat) : nI d - 1 + 1 = nI (d + 1) - 1 := by
  rw [← nI_1]
  simp
theorem nm_s {d : Nat} (h : d < 1000) (h0 : d ≠ 0) : nI d - 1 = nI (d - 1) := by
  rw [← Int32.toInt_inj, nm_i h, nI_toInt (by omega)]
  omega
theorem b_tst1 (x : Int32) {n : Nat} (hn : n < 32) : (x &&& ((1 : Int32) <<< (nI n &&& 31))) = 0 ↔ bt x n = false := by
  constructor
  · intro h
    have : bt (x &&& ((1 : Int32) <<< (nI n &&& 31))) n = bt x n := by rw [b_and, b_bit hn hn, decide_eq_true rfl, Bool.and_true]
    rw [← this, h, b_0]
  · intro h
    refine b_ext fun i hi => ?_
    rw [b_0, b_and, b_bit hn hi]
    by_cases e : i = n
    · subst e; rw [h, Bool.false_and]
    · rw [decide_eq_false e, Bool.and_false]
theorem b_set (x : Int32) {n i : Nat} (hn : n < 32) (hi : i < 32) : bt (x ||| ((1 : Int32) <<< (nI n &&& 31))) i = (bt x i || decide (i = n)) := by rw [b_or, b_bit hn hi]
theorem sRel_step {T : Nat → Nat → Int} {v : Nat → Int} {m ns np c : Nat} {S : Option (Int × Int × Nat)} {bc bl x y : Int32} {be be2 : Nat → Int32} (h : SRel np S bc bl be) (hok : okB ns (dg np c) np = true) (hx : x.toInt = sCo T v m (dg np c) np) (hx2 : x.toInt ≤ 240) (hy : y.toInt = sLe T v m (dg np c) np) (hbe : ∀ q, q < np → (be2 q).toInt = (dg np c q : Int) - 1) :
    SRel np (sStep T v m ns np c S) (if x < bc ∨ (x = bc ∧ bl < y) then x else bc) (if x < bc ∨ (x = bc ∧ bl < y) then y else bl) (if x < bc ∨ (x = bc ∧ bl < y) then be2 else be) := by
  unfold sStep
  rw [if_pos hok]
  cases S with
  | none =>
    have hb : bc = 241 := h
    have hc : x < bc ∨ (x = bc ∧ bl < y) := Or.inl ((i_lt rfl (show bc.toInt = 241 by rw [hb]; rfl)).mpr (by omega))
    rw [if_pos hc, if_pos hc, if_pos hc]
    exact ⟨hx, hy, by omega, hbe⟩
  | some t =>
    obtain ⟨a, b, k⟩ := t
    obtain ⟨h1, h2, h3, h4⟩ := h
    have hc : (x < bc ∨ (x = bc ∧ bl < y)) ↔ (sCo T v m (dg np c) np < a ∨ (sCo T v m (dg np c) np = a ∧ b < sLe T v m (dg np c) np)) := by
      rw [i_lt hx h1, i_eq hx h1, i_lt h2 hy]
    dsimp only
    by_cases q : sCo T v m (dg np c) np < a ∨ (sCo T v m (dg np c) np = a ∧ b < sLe T v m (dg np c) np)
    · rw [if_pos (hc.mpr q), if_pos (hc.mpr q), if_pos (hc.mpr q), if_pos q]
      exact ⟨hx, hy, by omega, hbe⟩
    · rw [if_neg (fun z => q (hc.mp z)), if_neg (fun z => q (hc.mp z)), if_neg (fun z => q (hc.mp z)), if_neg q]
      exact ⟨h1, h2, h3, h4⟩
section BLK
variable {T : Nat → Nat → Int} {v : Nat → Int} {m ns np pn k pc d : Nat} {s : Option (Int × Int × Nat)}
theorem usd_next {x : Nat} (hd : d < 10) : usd (dg (pn + 1) (pc * 10 + d)) x (pn + 1) = (usd (dg pn pc) x pn || decide (d = x)) := by
  rw [usd, dg_sn hd, usd_cong (fun q hq => dg_so hd hq)]
theorem okB_next (hd : d < 10) : okB ns (dg (pn + 1) (pc * 10 + d)) (pn + 1) = (okB ns (dg pn pc) pn && decide (d ≤ ns) && (decide (d = 0) || !usd (dg pn pc) d pn)) := by
  rw [okB, dg_sn hd, okB_cong (fun q hq => dg_so hd hq), usd_cong (fun q hq => dg_so hd hq)]
theorem sCo_next (hd : d < 10) : sCo T v m (dg (pn + 1) (pc * 10 + d)) (pn + 1) = sCo T v m (dg pn pc) pn + sGc T v m pn d := by
  rw [sCo, dg_sn hd, sCo_cong (fun q hq => dg_so hd hq)]
theorem sLe_next (hd : d < 10) : sLe T v m (dg (pn + 1) (pc * 10 + d)) (pn + 1) = minZ (sLe T v m (dg pn pc) pn) (sGw T v m pn d) := by
  rw [sLe, dg_sn hd, sLe_cong (fun q hq => dg_so hd hq)]
theorem sF_blk_bad (hnp : np = pn + (k + 1)) (h : okB ns (dg (pn + 1) (pc * 10 + d)) (pn + 1) = false) : sF T v m ns np s ((pc * 10 + d) * 10 ^ k) (10 ^ k) = s := by
  refine sF_bad fun c h1 h2 => ?_
  have e : ∀ q, q < pn + 1 → dg np c q = dg (pn + 1) (pc * 10 + d) q := fun q hq => by
    refine dg_blk (by omega) hq ?_ ?_
    · rw [show np - (pn + 1) = k by omega]; exact h1
    · rw [show np - (pn + 1) = k by omega, Nat.add_mul, Nat.one_mul]; exact h2
  cases g : okB ns (dg np c) np with
  | false => rfl
  | true =>
    have := okB_pre (p := pn + 1) (by omega) g
    rw [okB_cong e, h] at this
    exact absurd this (by decide)
theorem sF_tail (hnp : np = pn + (k + 1)) (h9 : ns ≤ 9) : sF T v m ns np s ((pc * 10 + (ns + 1)) * 10 ^ k) ((9 - ns) * 10 ^ k) = s := by
  refine sF_bad fun c h1 h2 => ?_
  cases g : okB ns (dg np c) np with
  | false => rfl
  | true =>
    have hl := okB_le (p := pn) g (by omega)
    unfold dg at hl
    rw [show np - 1 - pn = k by omega] at hl
    have p0 : 0 < 10 ^ k := Nat.pow_pos (by omega)
    have a : pc * 10 + (ns + 1) ≤ c / 10 ^ k := (Nat.le_div_iff_mul_le p0).mpr h1
    have b : c / 10 ^ k < pc * 10 + 10 := (Nat.div_lt_iff_lt_mul p0).mpr (by
      have e : (pc * 10 + 10) * 10 ^ k = (pc * 10 + (ns + 1)) * 10 ^ k + (9 - ns) * 10 ^ k := by
        rw [← Nat.add_mul, show pc * 10 + (ns + 1) + (9 - ns) = pc * 10 + 10 by omega]
      rw [e]; exact h2)
    generalize c / 10 ^ k = e at a b hl
    omega
theorem sF_one {c : Nat} : sF T v m ns np s c 1 = sStep T v m ns np c s := rfl
end BLK
