/-! all orders of those left, behind a beginning -/
def pH (T : Nat → Nat → Int) (v : Nat → Int) (b m n : Nat) (A : Nat → Bool) (t : Nat) (h : Int) (pl : List Nat) (c : Nat) : Int × List Nat := (heatL T v b m t h (ordL n A c), pl ++ ordL n A c)
def dP (T : Nat → Nat → Int) (v : Nat → Int) (b m n : Nat) (A : Nat → Bool) (t : Nat) (h : Int) (pl : List Nat) (S : Option (Int × List Nat)) : Option (Int × List Nat) := pF (pH T v b m n A t h pl) S 0 (fac n)
def mA (L : Nat) : Nat → Bool := fun q => L.testBit q
def subM (L K : Nat) : Prop := ∀ q, L.testBit q = true → K.testBit q = true
def PInv (T : Nat → Nat → Int) (v : Nat → Int) (b m N0 : Nat) (gf : Nat → Int32) (S : Option (Int × List Nat)) (L : Nat) : Prop :=
  gf L = -1 ∨ (0 ≤ (gf L).toInt ∧ ∀ c, c < fac (cntA (mA L) 8) → leS S (heatL T v b m (N0 - cntA (mA L) 8) (gf L).toInt (ordL (cntA (mA L) 8) (mA L) c)))
def PRel (N0 : Nat) (S : Option (Int × List Nat)) (gf : Nat → Int32) (gb : Int32) (gz : Nat → Int32) : Prop :=
  match S with
  | none => gf 0 = -1
  | some (a, r) => (gf 0).toInt = a ∧ gb.toInt = a ∧ r.length = N0 ∧ ∀ k, k < N0 → gz k = nI (r.getD k 0)
section DP
variable {T : Nat → Nat → Int} {v : Nat → Int} {b m n t p N0 : Nat} {A : Nat → Bool} {h : Int} {pl : List Nat} {S S2 : Option (Int × List Nat)} {gf gf2 gz gz2 : Nat → Int32} {gb : Int32}
theorem dP_zero : dP T v b m 0 A t h pl S = selP S h pl := by
  unfold dP
  rw [fac, pF, pF]
  unfold pH
  rw [ordL, List.append_nil]
  rfl
theorem dP_step (hp : A p = true) (h8 : p < 8) : pF (pH T v b m (n + 1) A t h pl) S 0 (cntA A (p + 1) * fac n) = dP T v b m n (rmA A p) (t + 1) (pSt T v b m t p h) (pl ++ [p]) (pF (pH T v b m (n + 1) A t h pl) S 0 (cntA A p * fac n)) := by
  rw [cntA_y hp, Nat.add_mul, Nat.one_mul, pF_add]
  unfold dP
  refine pF_cong fun i hi => ?_
  have e1 : (0 + cntA A p * fac n + i) / fac n = cntA A p := by
    rw [Nat.zero_add, Nat.add_comm, Nat.add_mul_div_right _ _ (fac_pos n), Nat.div_eq_of_lt hi, Nat.zero_add]
  have e2 : (0 + cntA A p * fac n + i) % fac n = i := by
    rw [Nat.zero_add, Nat.add_comm, Nat.add_mul_mod_self_right, Nat.mod_eq_of_lt hi]
  unfold pH
  rw [ordL, e1, e2, nthA_eq hp rfl h8, Nat.zero_add i, heatL, List.append_assoc]
  rfl
theorem dP_end (hA : cntA A p = n + 1) : pF (pH T v b m (n + 1) A t h pl) S 0 (cntA A p * fac n) = dP T v b m (n + 1) A t h pl S := by
  rw [hA]; rfl
theorem dP_no (hl : ∀ c, c < fac n → leS S (heatL T v b m t h (ordL n A c))) : dP T v b m n A t h pl S = S := by
  unfold dP
  refine pF_no fun i hi => ?_
  rw [Nat.zero_add]
  exact hl i hi
theorem dP_ge {c : Nat} (hc : c < fac n) : leS (dP T v b m n A t h pl S) (heatL T v b m t h (ordL n A c)) := by
  have := leS_all (H := pH T v b m n A t h pl) (S := S) (lo := 0) hc
  rw [Nat.zero_add] at this
  exact this
theorem PInv.mono {L : Nat} (hi : PInv T v b m N0 gf S L) (he : gf2 L = gf L) (hs : ∀ x, leS S x → leS S2 x) : PInv T v b m N0 gf2 S2 L := by
  unfold PInv
  rw [he]
  rcases hi with hi | hi
  · exact Or.inl hi
  · exact Or.inr ⟨hi.1, fun c hc => hs _ (hi.2 c hc)⟩
theorem PRel_leaf {y : Int32} (hS : PRel N0 S gf gb gz) (hy0 : 0 ≤ y.toInt) (hy : gf 0 < y) (hl : pl.length = N0) (hz : ∀ k, k < N0 → gz2 k = nI (pl.getD k 0)) : PRel N0 (selP S y.toInt pl) (upd gf 0 y) y gz2 ∧ selP S y.toInt pl = some (y.toInt, pl) := by
  have e : selP S y.toInt pl = some (y.toInt, pl) := by
    cases S with
    | none => rfl
    | some t =>
      obtain ⟨a, r⟩ := t
      have h1 : (gf 0).toInt = a := hS.1
      unfold selP
      dsimp only
      rw [if_pos ((i_lt h1 rfl).mp hy)]
  rw [e]
  exact ⟨⟨by rw [upd_at], rfl, hl, hz⟩, rfl⟩
theorem PRel_keep {L : Nat} {y : Int32} (hL : L ≠ 0) (hS : PRel N0 S gf gb gz) : PRel N0 S (upd gf L y) gb gz := by
  have e : upd gf L y 0 = gf 0 := upd_ne (fun z => hL z.symm)
  cases S with
  | none => exact e.trans hS
  | some t =>
    obtain ⟨a, r⟩ := t
    exact ⟨by rw [e]; exact hS.1, hS.2⟩
end DP
/-! masks -/
theorem mk_tst : ∀ L, L < 256 → ∀ p, p < 8 → (((nI L >>> (nI p &&& 31)) &&& 1) = 0 ↔ L.testBit p = false) := by decide +kernel
theorem mk_rmI : ∀ L, L < 256 → ∀ p, p < 8 → L.testBit p = true → (nI L &&& (((1 : Int32) <<< (nI p &&& 31)) ^^^ (-1))) = nI (L - 2 ^ p) := by decide +kernel
theorem mk_rm8 : ∀ L, L < 256 → ∀ p, p < 8 → L.testBit p = true → ∀ q, q < 8 → (L - 2 ^ p).testBit q = (L.testBit q && decide (q ≠ p)) := by decide +kernel
theorem mA_big {L q : Nat} (hL : L < 256) (hq : 8 ≤ q) : L.testBit q = false := Nat.testBit_lt_two_pow (Nat.lt_of_lt_of_le hL (Nat.pow_le_pow_right (show 0 < 2 by omega) hq : 2 ^ 8 ≤ 2 ^ q))
theorem mA_rm {L p : Nat} (hL : L < 256) (hp : p < 8) (h : L.testBit p = true) : mA (L - 2 ^ p) = rmA (mA L) p := by
  funext q
  unfold mA rmA
  rcases Nat.lt_or_ge q 8 with l | l
  · exact mk_rm8 L hL p hp h q l
  · dsimp only
    rw [mA_big (Nat.lt_of_le_of_lt (Nat.sub_le _ _) hL) l, mA_big hL l]; rfl
theorem mA_0 (q : Nat) : mA 0 q = false := Nat.zero_testBit q
theorem cnt_0 : cntA (mA 0) 8 = 0 := by decide
theorem mk_ne0 {L : Nat} (hL : L < 256) (h : L ≠ 0) : 0 < cntA (mA L) 8 := (by decide +kernel : ∀ L, L < 256 → L ≠ 0 → 0 < cntA (mA L) 8) L hL h
theorem sub_rm {L K p : Nat} (hK : K < 256) (hp : p < 8) (h : K.testBit p = true) (hs : subM L (K - 2 ^ p)) : subM L K ∧ L ≠ K := by
  have e : ∀ q, (K - 2 ^ p).testBit q = rmA (mA K) p q := fun q => congrFun (mA_rm hK hp h) q
  refine ⟨fun q hq => rmA_sub (A := mA K) (x := p) (by rw [← e]; exact hs q hq), fun z => ?_⟩
  subst z
  have := hs p h
  rw [e, rmA_at] at this
  exact absurd this (by decide)
theorem sub_lt {K p : Nat} (hK : K < 256) (hp : p < 8) (h : K.testBit p = true) {N : Nat} (hN : K < N) : K - 2 ^ p < N := Nat.lt_of_le_of_lt (Nat.sub_le _ _) hN
theorem sub_00 {L : Nat} (h : subM L 0) : L = 0 := by
  refine Nat.eq_of_testBit_eq fun q => ?_
  rw [Nat.zero_testBit]
  cases u : L.testBit q with
  | false => rfl
  | true => have := h q u; rw [Nat.zero_testBit] at this; exact absurd this (by decide)
theorem cnt_np {L np : Nat} (hL : L < 2 ^ np) (h8 : np ≤ 8) : cntA (mA L) np = cntA (mA L) 8 := by
  have key : ∀ k, cntA (mA L) (np + k) = cntA (mA L) np := fun k => by
    induction k with
    | zero => rfl
    | succ k ih =>
      rw [← Nat.add_assoc, cntA_n (A := mA L) (n := np + k) ?_, ih]
      exact Nat.testBit_lt_two_pow (Nat.lt_of_lt_of_le hL (Nat.pow_le_pow_right (by omega) (by omega)))
  have := key (8 - np)
  rw [show np + (8 - np) = 8 by omega] at this
  exact this.symm
theorem tb_np {L np p : Nat} (hL : L < 2 ^ np) (h : L.testBit p = true) : p < np := by
  rcases Nat.lt_or_ge p np with q | q
  · exact q
  · have := Nat.testBit_lt_two_pow (Nat.lt_of_lt_of_le hL (Nat.pow_le_pow_right (show 0 < 2 by omega) q))
    rw [this] at h
    exact absurd h (by decide)
theorem getD_pre {pl : List Nat} {k x : Nat} (h : k < pl.length) : (pl ++ [x]).getD k 0 = pl.getD k 0 := by
  rw [List.getD_eq_getElem?_getD, List.getD_eq_getElem?_getD, List.getElem?_append_left h]
theorem getD_new {pl : List Nat} {x : Nat} : (pl ++ [x]).getD pl.length 0 = x := by
  rw [List.getD_eq_getElem?_getD, List.getElem?_append_right (Nat.le_refl _), Nat.sub_self]
  rfl
def ansP (S : Option (Int × List Nat)) (what : Int) : Int :=
  match S with
  | none => 0
  | some (a, r) => if what = 0 then a else (nI (r.getD (what - 1).toNat 0)).toInt
def aPassed (T : Nat → Nat → Int) (ns np : Nat) (v : Nat → Int) (b set m what : Int) : Int :=
  if ¬ (0 ≤ b ∧ b < ns) ∨ ¬ (0 ≤ set ∧ set.toNat < 2 ^ np) then -1000000001
  else if ¬ (1 ≤ m ∧ m ≤ 60) ∨ ¬ (1 ≤ cntA (mA set.toNat) 8 ∧ cntA (mA set.toNat) 8 ≤ 6) ∨ ¬ (0 ≤ what ∧ what ≤ cntA (mA set.toNat) 8) then -1000000002
  else ansP (dP T v b.toNat m.toNat (cntA (mA set.toNat) 8) (mA set.toNat) 0 (v b.toNat) [] none) what
theorem pow8 {n : Nat} (hn : n ≤ 8) : 2 ^ n ≤ 256 := (Nat.pow_le_pow_right (show 0 < 2 by omega) hn : 2 ^ n ≤ 2 ^ 8)
theorem ush_iff (s : Int32) {n : Nat} (hn : n ≤ 8) : ((s).toUInt32 >>> ((nI n : Int32).toUInt32 &&& Int32.toUInt32 31)).toInt32 = 0 ↔ (0 ≤ s.toInt ∧ s.toInt.toNat < 2 ^ n) := by
  have e0 : ((s).toUInt32 >>> ((nI n : Int32).toUInt32 &&& Int32.toUInt32 31)).toNat = s.toUInt32.toNat / 2 ^ n := by
    rw [UInt32.toNat_shiftRight, (by decide +kernel : ∀ n, n < 9 → ((nI n : Int32).toUInt32 &&& Int32.toUInt32 31).toNat % 32 = n) n (by omega), Nat.shiftRight_eq_div_pow]
  have ec := BitVec.toInt_eq_toNat_cond s.toBitVec
  have ei : s.toInt = s.toBitVec.toInt := rfl
  have en : s.toUInt32.toNat = s.toBitVec.toNat := rfl
  have hl : s.toBitVec.toNat < 2 ^ 32 := s.toBitVec.isLt
  have hp := pow8 hn
  have hp0 : 0 < 2 ^ n := Nat.pow_pos (by omega)
  have key : s.toUInt32.toNat / 2 ^ n = 0 ↔ s.toBitVec.toNat < 2 ^ n := by
    rw [en, Nat.div_eq_zero_iff_lt hp0]
  have k2 : s.toBitVec.toNat < 2 ^ n ↔ (0 ≤ s.toInt ∧ s.toInt.toNat < 2 ^ n) := by
    rw [ei, ec]
    generalize 2 ^ n = N at hp hp0
    split <;> omega
  rw [← k2, ← key, ← e0]
  constructor
  · intro h
    exact congrArg (fun x : Int32 => x.toUInt32.toNat) h
  · intro h
    have : (s).toUInt32 >>> ((nI n : Int32).toUInt32 &&& Int32.toUInt32 31) = 0 := UInt32.toNat_inj.mp h
    rw [this]
    rfl
