/-! how a reader stands: at a fault, or at a place without one -/
def CSf (L : Nat) (x : Flt) (xg xf xa : Int32) : Prop := 1 ≤ x.1 ∧ x.1 ≤ 4 ∧ xg = nI x.1 ∧ xf = nI x.2 ∧ ∃ a, a ≤ L ∧ xa = nI a
def CSo (L a : Nat) (xg xf xa : Int32) : Prop := a ≤ L ∧ xg = 0 ∧ xf = -1 ∧ xa = nI a
def CSs (L : Nat) (r : Flt ⊕ Nat) (xg xf xa : Int32) : Prop :=
  match r with
  | .inl x => CSf L x xg xf xa
  | .inr a => CSo L a xg xf xa
def CSn (L : Nat) (r : Flt ⊕ (Nat × Nat × Int)) (v xg xf xa xt : Int32) : Prop :=
  match r with
  | .inl x => CSf L x xg xf xa
  | .inr (e, t, z) => CSo L e xg xf xa ∧ xt = nI t ∧ v.toInt = z
def CSk (L : Nat) (r : Flt ⊕ (Nat × Int)) (v xg xf xa : Int32) : Prop :=
  match r with
  | .inl x => CSf L x xg xf xa
  | .inr (e, z) => CSo L e xg xf xa ∧ v.toInt = z
/-- the class's told town -/
def CW (t : PTn) (ns np fu fd fi : Int32) (sz pt fh kd nd fw : Nat → Int32) : Prop :=
  CT t.2.2.1 t.1 t.2.1 ns np fu fd fi sz pt kd nd ∧ (∀ b, b < t.1 → (fh b).toInt = t.2.2.1 5 b) ∧ (∀ p, p < t.2.1 → (fw p).toInt = t.2.2.1 6 p)
def flg (b : Bool) : Int32 := if b = true then 1 else 0
def CP (L : Nat) (r : Flt ⊕ (Nat × PTn)) (xg xf xa xr xn ns np fu fd fi : Int32) (sz pt fh kd nd fw : Nat → Int32) : Prop :=
  match r with
  | .inl x => CSf L x xg xf xa
  | .inr (a, t) => CSo L a xg xf xa ∧ CW t ns np fu fd fi sz pt fh kd nd fw ∧ xr = flg t.2.2.2.1 ∧ xn = flg t.2.2.2.2
theorem CSf.ne {L : Nat} {x : Flt} {xg xf xa : Int32} (h : CSf L x xg xf xa) : ¬ xg = 0 := by
  rw [h.2.2.1]
  have h1 := h.1
  have h2 := h.2.1
  exact nI_n0 (by omega) (by omega)
theorem CSf.mk {L f t a : Nat} (h1 : 1 ≤ f) (h4 : f ≤ 4) (ha : a ≤ L) : CSf L (f, t) (nI f) (nI t) (nI a) := ⟨h1, h4, rfl, rfl, a, ha, rfl⟩
theorem flg_0 {b : Bool} : flg b = 0 ↔ b = false := by cases b <;> decide
/-- the class's bytes -/
theorem sg_eq {x : Int} {c : Int} (h1 : 0 ≤ x) (h2 : x ≤ 255) (h3 : 0 ≤ c) (h4 : c < 128) : sg x = c ↔ x = c := by
  unfold sg; split <;> omega
theorem sg_ge {x : Int} {c d : Int} (h1 : 0 ≤ x) (h2 : x ≤ 255) (h3 : 0 ≤ c) (h5 : d < 128) : (c ≤ sg x ∧ sg x ≤ d) ↔ (c ≤ x ∧ x ≤ d) := by
  unfold sg; split <;> omega
theorem CX.at {B : Nat → Int} {L : Nat} {xb : Nat → Int32} {xl : Int32} (h : CX B L xb xl) {i : Nat} (hi : i < L) : 0 ≤ B i ∧ B i ≤ 255 ∧ (xb i).toInt = sg (B i) := h.2.2 i hi
theorem st_c : ∀ i, i < 9 → ∀ k, k < stL.getD i 0 → ((stB.getD i []).getD k 0 &&& 255) = (stB.getD i []).getD k 0 ∧ 0 ≤ ((stB.getD i []).getD k 0).toInt ∧ ((stB.getD i []).getD k 0).toInt < 128 := by decide +kernel
theorem st_l : ∀ i, i < 9 → 3 ≤ stL.getD i 0 ∧ stL.getD i 0 ≤ 6 := by decide
theorem CX.rg {B : Nat → Int} {L : Nat} {xb : Nat → Int32} {xl : Int32} (h : CX B L xb xl) {i : Nat} (hi : i < L) (c d : Int32) (hc : 0 ≤ c.toInt) (hd : d.toInt < 128) : (¬ xb i < c ∧ ¬ d < xb i) ↔ (c.toInt ≤ B i ∧ B i ≤ d.toInt) := by
  have bx := h.at hi
  rw [← sg_ge bx.1 bx.2.1 hc hd, i_lt bx.2.2 rfl, i_lt rfl bx.2.2]
  omega
theorem CX.is {B : Nat → Int} {L : Nat} {xb : Nat → Int32} {xl : Int32} (h : CX B L xb xl) {i : Nat} (hi : i < L) (c : Int32) (hc : 0 ≤ c.toInt) (hd : c.toInt < 128) : xb i = c ↔ B i = c.toInt := by
  have bx := h.at hi
  rw [i_eq bx.2.2 rfl]
  exact sg_eq bx.1 bx.2.1 hc hd
theorem MX.rg {B : Nat → Int} {L : Nat} {xb : Nat → Int32} {xl : Int32} (h : MX B L xb xl) {i : Nat} (hi : i < L) (c d : Int64) : (¬ (xb i).toInt64 < c ∧ ¬ d < (xb i).toInt64) ↔ (c.toInt ≤ B i ∧ B i ≤ d.toInt) := by
  have bx := h.2.2 i hi
  rw [l_lt (i_l bx.2.2) rfl, l_lt rfl (i_l bx.2.2)]
  omega
theorem MX.is {B : Nat → Int} {L : Nat} {xb : Nat → Int32} {xl : Int32} (h : MX B L xb xl) {i : Nat} (hi : i < L) (c : Int32) : xb i = c ↔ B i = c.toInt := by
  have bx := h.2.2 i hi
  rw [i_eq bx.2.2 rfl]
theorem nI_sub {a b : Nat} (h : b ≤ a) (ha : a < 2147483648) : nI a - nI b = nI (a - b) := by
  rw [← Int32.toInt_inj, i_sub (nI_toInt (by omega)) (nI_toInt (by omega)) (by omega) (by omega), nI_toInt (by omega)]
  omega
theorem nI_eqI {a b : Nat} (ha : a < 2147483648) (hb : b < 2147483648) : nI a = nI b ↔ a = b := by
  rw [i_eq (nI_toInt (by omega)) (nI_toInt (by omega))]
  omega
/-! bytes of a long -/
def byZ (y : Int64) (k : Nat) : Int := ((y.toBitVec.toNat / 2 ^ (8 * k) % 256 : Nat) : Int)
def fdB (B : Nat → Int) (L n : Nat) (y : Int64) : Nat → Int := fun i => if i < L then B i else byZ y (n - 1 - (i - L))
theorem byZ_bd (y : Int64) (k : Nat) : 0 ≤ byZ y k ∧ byZ y k ≤ 255 := by
  unfold byZ
  have := Nat.mod_lt (y.toBitVec.toNat / 2 ^ (8 * k)) (show 0 < 256 by omega)
  omega
theorem sg_bmod (n : Nat) : ((n : Int)).bmod (2 ^ 8) = sg ((n % 256 : Nat) : Int) := by
  rw [Int.bmod_def]
  unfold sg
  have e : ((n : Int)) % ((2 ^ 8 : Nat) : Int) = ((n % 256 : Nat) : Int) := rfl
  rw [e]
  have h2 : (((2 ^ 8 : Nat) : Int) + 1) / 2 = 128 := rfl
  rw [h2]
  rfl
theorem by_cls (y : Int64) {k : Nat} (hk : k < 8) : (vp_nar .byte (((((y).toUInt64 >>> (((8 * nI k) : Int32).toInt64.toUInt64 &&& Int64.toUInt64 63)).toInt64).toInt32).toInt8.toInt32)).toInt = sg (byZ y k) := by
  have es : ((y).toUInt64 >>> (((8 * nI k) : Int32).toInt64.toUInt64 &&& Int64.toUInt64 63)).toNat = y.toBitVec.toNat / 2 ^ (8 * k) := by
    rw [UInt64.toNat_shiftRight, (by decide +kernel : ∀ k, k < 8 → (((8 * nI k) : Int32).toInt64.toUInt64 &&& Int64.toUInt64 63).toNat % 64 = 8 * k) k hk, Nat.shiftRight_eq_div_pow]
    rfl
  rw [vp_nar_byte]
  generalize (y).toUInt64 >>> (((8 * nI k) : Int32).toInt64.toUInt64 &&& Int64.toUInt64 63) = u at es
  have e64 : u.toInt64.toInt = ((u.toNat : Int)).bmod (2 ^ 64) := by
    show u.toBitVec.toInt = _
    rw [BitVec.toInt_eq_toNat_bmod]
    rfl
  rw [Int8.toInt_toInt32, Int32.toInt_toInt8, Int8.toInt_toInt32, Int32.toInt_toInt8, Int64.toInt_toInt32, e64, Int.bmod_bmod_of_dvd (show 2 ^ 8 ∣ 2 ^ 8 from ⟨1, rfl⟩), Int.bmod_bmod_of_dvd (show 2 ^ 8 ∣ 2 ^ 32 from ⟨2 ^ 24, rfl⟩), Int.bmod_bmod_of_dvd (show 2 ^ 8 ∣ 2 ^ 64 from ⟨2 ^ 56, rfl⟩), sg_bmod, es]
  rfl
theorem by_ref (y : Int64) {k : Nat} (hk : k < 8) : (((y >>> (((8 * nI k) : Int32).toInt64 &&& 63)) &&& 255).toInt32).toInt = byZ y k := by
  have e1 : (y >>> (((8 * nI k) : Int32).toInt64 &&& 63)).toBitVec = y.toBitVec.sshiftRight (8 * k) := by
    rw [Int64.toBitVec_shiftRight]
    show y.toBitVec.sshiftRight (((((8 * nI k) : Int32).toInt64 &&& 63)).toBitVec.smod 64).toNat = _
    rw [(by decide +kernel : ∀ k, k < 8 → (((((8 * nI k) : Int32).toInt64 &&& 63)).toBitVec.smod 64).toNat = 8 * k) k hk]
  have e2 : ((y >>> (((8 * nI k) : Int32).toInt64 &&& 63)) &&& 255).toBitVec.toNat = y.toBitVec.toNat / 2 ^ (8 * k) % 256 := by
    rw [Int64.toBitVec_and, BitVec.toNat_and, e1]
    show (y.toBitVec.sshiftRight (8 * k)).toNat &&& 255 = _
    rw [Nat.and_two_pow_sub_one_eq_mod _ 8]
    have h3 : (y.toBitVec.sshiftRight (8 * k)).setWidth 8 = (y.toBitVec >>> (8 * k)).setWidth 8 := by
      refine BitVec.eq_of_getLsbD_eq fun i hi => ?_
      rw [BitVec.getLsbD_setWidth, BitVec.getLsbD_setWidth, BitVec.getLsbD_sshiftRight, BitVec.getLsbD_ushiftRight]
      have h4 : 8 * k + i < 64 := by omega
      have h5 : ¬ 64 ≤ i := by omega
      simp [h4, h5]
    have h6 := congrArg BitVec.toNat h3
    rw [BitVec.toNat_setWidth, BitVec.toNat_setWidth, BitVec.toNat_ushiftRight, Nat.shiftRight_eq_div_pow] at h6
    exact h6
  generalize (y >>> (((8 * nI k) : Int32).toInt64 &&& 63)) &&& 255 = x at e2
  have hm := Nat.mod_lt (y.toBitVec.toNat / 2 ^ (8 * k)) (show 0 < 256 by omega)
  have e3 : x.toInt = byZ y k := by
    show x.toBitVec.toInt = _
    rw [BitVec.toInt_eq_toNat_of_lt (by rw [e2]; omega), e2]
    rfl
  have hb := byZ_bd y k
  exact l_iZ e3 (by omega) (by omega)
/-- behind the whole text -/
def CI (r : Flt ⊕ PTn) (v xf ns np fu fd fi : Int32) (sz pt fh kd nd fw : Nat → Int32) : Prop :=
  match r with
  | .inl x => 1 ≤ x.1 ∧ x.1 ≤ 4 ∧ v = nI x.1 ∧ xf = nI x.2
  | .inr t => v = 0 ∧ xf = -1 ∧ CW t ns np fu fd fi sz pt fh kd nd fw
