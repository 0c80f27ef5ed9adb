/-! the reference's orders and trials -/
theorem and1 (x : Int32) : (x &&& 1) = 1 ↔ ¬ (x &&& 1) = 0 := by
  have e : ∀ i, i < 32 → bt (x &&& 1) i = (bt x i && decide (i = 0)) := fun i _ => by rw [b_and, b_1]
  constructor
  · intro h z
    rw [h] at z
    exact absurd z (by decide)
  · intro h
    refine b_ext fun i hi => ?_
    rw [e i hi, b_1]
    cases u : bt x 0 with
    | true =>
      by_cases q : i = 0
      · subst q; rw [u]; rfl
      · rw [decide_eq_false q, Bool.and_false]
    | false =>
      refine absurd (b_ext fun j hj => ?_) h
      rw [e j hj, b_0]
      by_cases q : j = 0
      · subst q; rw [u]; rfl
      · rw [decide_eq_false q, Bool.and_false]
theorem nI_div {a b : Nat} (ha : a < 2147483648) (hb : 0 < b) (hb2 : b < 2147483648) : nI a / nI b = nI (a / b) := by
  have hle : a / b ≤ a := Nat.div_le_self a b
  rw [← Int32.toInt_inj, i_div (nI_toInt (by omega)) (nI_toInt (by omega)) (by omega), nI_toInt (by omega)]
  unfold dvZ
  rw [if_pos (by omega)]
  rfl
theorem nI_rem {a b : Nat} (ha : a < 2147483648) (hb : 0 < b) (hb2 : b < 2147483648) : nI a - nI a / nI b * nI b = nI (a % b) := by
  have hle : a % b ≤ a := Nat.mod_le a b
  rw [← Int32.toInt_inj, i_rem (nI_toInt (by omega)) (nI_toInt (by omega)) (by omega) (by omega), nI_toInt (by omega)]
  rfl
theorem nI_n0 {a : Nat} (h0 : 0 < a) (h : a < 2147483648) : ¬ nI a = 0 := by
  rw [i_eq (nI_toInt (by omega)) i32_0]; omega
theorem fac_s {k : Nat} (h : 0 < k) : fac k = fac (k - 1) * k := by
  cases k with
  | zero => exact absurd h (Nat.lt_irrefl _)
  | succ k => rw [fac, Nat.mul_comm]; rfl
section GI
variable {A B : Nat → Bool} {n i j : Nat}
/-- the places of all (A) and who is left of them (B) -/
theorem gI_inj (hA : cntA A 8 = n) (hi : i < n) (hj : j < n) (h : nthA A i 8 = nthA A j 8) : i = j := by
  have a := (nthA_ok (A := A) (s := i) (N := 8) (by omega)).2.1
  have b := (nthA_ok (A := A) (s := j) (N := 8) (by omega)).2.1
  rw [h, b] at a
  exact a.symm
theorem gI_0 (hA : cntA A 8 = n) (hs : ∀ q, B q = true → A q = true) (hn : 0 < n) : cntA B (nthA A 0 8) = 0 := by
  have a := (nthA_ok (A := A) (s := 0) (N := 8) (by omega)).2.1
  exact (cntA_gap (a := 0) hs (Nat.zero_le _) (by rw [a]; rfl)).symm
theorem gI_next {s : Nat} (hA : cntA A 8 = n) (hs : ∀ q, B q = true → A q = true) (hi : i < n) (h1 : cntA B (nthA A i 8 + 1) ≤ s) (h2 : s < cntA B 8) : i + 1 < n ∧ cntA B (nthA A (i + 1) 8) = cntA B (nthA A i 8 + 1) := by
  obtain ⟨a1, a2, a3⟩ := nthA_ok (A := A) (s := i) (N := 8) (by omega)
  have a4 := cntA_y a1
  have hlt : i + 1 < n := by
    rcases Nat.lt_or_ge (i + 1) n with q | q
    · exact q
    · have := cntA_gap (A := A) (a := nthA A i 8 + 1) hs (show nthA A i 8 + 1 ≤ 8 by omega) (by omega)
      omega
  refine ⟨hlt, ?_⟩
  obtain ⟨b1, b2, b3⟩ := nthA_ok (A := A) (s := i + 1) (N := 8) (by omega)
  have hle : nthA A i 8 + 1 ≤ nthA A (i + 1) 8 := by
    rcases Nat.lt_or_ge (nthA A i 8) (nthA A (i + 1) 8) with q | q
    · exact q
    · have := cntA_mono (A := A) q
      omega
  exact (cntA_gap (A := A) hs hle (by omega)).symm
end GI
theorem maxZ_add {a d : Int} (hd : 0 ≤ d) : maxZ 0 (maxZ 0 a - d) = maxZ 0 (a - d) := by
  unfold maxZ
  split <;> split <;> (try split) <;> omega
theorem take_next {o : List Nat} {k : Nat} (h : k < o.length) : o.take (k + 1) = o.take k ++ [o.getD k 0] := by
  rw [List.take_succ, List.getD_eq_getElem?_getD, List.getElem?_eq_getElem h]
  rfl
noncomputable def hRw (T : Nat → Nat → Int) (ns np : Nat) (v : Nat → Int) (b m : Nat) (o : List Nat) : Nat → Nat → Int
  | 0 => zUp v
  | k + 1 => uz (zGo T ns np (uz (hRw T ns np v b m o k) (20 + o.getD k 0) (b : Int)) m) (20 + o.getD k 0) (-1)
section HRW
variable {T : Nat → Nat → Int} {ns np : Nat} {M : Int} {v : Nat → Int} {b m n : Nat} {o : List Nat}
theorem hRw_seat (hT : TOK T ns np) (hb : b < ns) {u : Nat → Int} {k : Nat → Int} {M : Int} {x : Nat} (hx : x < np) (hu : NOK T ns np k M u) (hs : ∀ q, q < np → u (20 + q) = -1) : NOK T ns np k M (uz u (20 + x) (b : Int)) :=
  NOK_seat hT hu hx (Or.inr ⟨by omega, by omega, fun q hq _ => by rw [hs q hq]; omega⟩)
theorem hRw_ok (hT : TOK T ns np) (hO : NOK T ns np (fun _ => 2 * M) M v) (hb : b < ns) (hl : o.length = n) (ho : ∀ k, k < n → o.getD k 0 < np) (hd : ∀ i k, i < k → k < n → o.getD i 0 ≠ o.getD k 0) : ∀ k, k ≤ n → NOK T ns np (fun _ => 2 * (M + ((k * m : Nat) : Int))) (M + ((k * m : Nat) : Int)) (hRw T ns np v b m o k) ∧ (∀ q, q < np → hRw T ns np v b m o k (20 + q) = -1) ∧ hRw T ns np v b m o k b = heatL T v b m 0 (v b) (o.take k) ∧ (∀ q, q < np → (∀ i, i < k → o.getD i 0 ≠ q) → hRw T ns np v b m o k (10 + q) = maxZ 0 (v (10 + q) - ((k * m : Nat) : Int) * frU T q))
  | 0, _ => by
    have t1 := hT.1
    have t2 := hT.2.1
    refine ⟨?_, fun q hq => zUp_s (by omega), ?_, fun q hq _ => ?_⟩
    · rw [Nat.zero_mul, Int.natCast_zero, Int.add_zero]
      exact zUp_ok hT hO
    · rw [hRw, zUp_o (by omega)]; rfl
    · have := (hO.2.1 q hq).1
      rw [hRw, zUp_o (by omega), Nat.zero_mul, Int.natCast_zero, Int.zero_mul, Int.sub_zero]
      unfold maxZ
      split <;> omega
  | k + 1, hk => by
    have t1 := hT.1
    have t2 := hT.2.1
    obtain ⟨n1, s1, h1, w1⟩ := hRw_ok hT hO hb hl ho hd k (by omega)
    have hx := ho k (by omega)
    have hdk : ∀ i, i < k → o.getD i 0 ≠ o.getD k 0 := fun i hi => hd i k hi (by omega)
    rw [take_next (o := o) (k := k) (by omega), heatL_snoc, List.length_take, Nat.min_eq_left (by omega), Nat.zero_add, hRw, ← h1]
    obtain ⟨x, ex⟩ : ∃ x, o.getD k 0 = x := ⟨_, rfl⟩
    rw [ex] at hx hdk ⊢
    have w1x := w1 x hx hdk
    generalize hu : hRw T ns np v b m o k = u at n1 s1 w1 w1x ⊢
    have n2 := hRw_seat hT hb hx n1 s1
    have n4 := NOK_seat (s := -1) hT (zGo_ok hT n2 m) hx (Or.inl rfl)
    obtain ⟨g1, g2, g3, -, -⟩ := zGo_split hT n2 m
    have eM : M + (((k + 1) * m : Nat) : Int) = M + ((k * m : Nat) : Int) + (m : Int) := by rw [Nat.add_mul, Nat.one_mul]; omega
    refine ⟨?_, fun q hq => ?_, ?_, fun q hq hne => ?_⟩
    · rw [eM]; exact n4
    · by_cases e : q = x
      · subst e; rw [uz_eq]
      · rw [uz_ne (by omega), g1 q hq, uz_ne (by omega), s1 q hq]
    · have a := g3 x b hx hb (uz_eq _ _ _)
      rw [uz_ne (by omega), a, uz_eq, Int.toNat_natCast, uz_ne (by omega), uz_ne (by omega), w1x]
      rfl
    · have hq2 : q ≠ x := by
        have a := hne k (by omega)
        rw [ex] at a
        exact fun z => a z.symm
      rw [uz_ne (by omega), g2 q hq, uz_ne (i := 20 + x) (j := 20 + q) (by omega), uz_ne (i := 20 + x) (j := 10 + q) (by omega), s1 q hq, w1 q hq (fun i hi => hne i (by omega))]
      have fb := frU_bd hT q
      have bw := (hO.2.1 q hq).1
      rw [zSts_stand (by omega) fb.1 (wt_bd (a := ((k * m : Nat) : Int)) bw.2 (by omega) fb.1).1, maxZ_add (Int.mul_nonneg (by omega) fb.1), Nat.add_mul, Nat.one_mul, Int.natCast_add, Int.add_mul, Int.sub_sub]
end HRW
theorem heatL_bd {T : Nat → Nat → Int} {ns np : Nat} {M : Int} {v : Nat → Int} {b m : Nat} {kk : Nat → Int} (hT : TOK T ns np) (hO : NOK T ns np kk M v) (hb : b < ns) : ∀ (o : List Nat) (t : Nat) (h : Int), (∀ k, k < o.length → o.getD k 0 < np) → 0 ≤ h → h ≤ T 0 b → 0 ≤ heatL T v b m t h o ∧ heatL T v b m t h o ≤ T 0 b
  | [], _, _, _, h0, h1 => ⟨h0, h1⟩
  | x :: o, t, h, ho, h0, h1 => by
    have hx : x < np := ho 0 (by simp)
    have pb := pSt_bd (t := t) (m := m) hT hO hx hb h0 h1
    exact heatL_bd hT hO hb o (t + 1) _ (fun k hk => ho (k + 1) (by simpa using hk)) pb.1 pb.2
/-- the reference's best order so far -/
def MPs (n : Nat) (A : Nat → Bool) (S : Option (Int × List Nat)) (b : Int32) (w : Int64) : Prop :=
  match S with
  | none => b = -1
  | some (a, r) => (∃ k, b = nI k ∧ k < fac n ∧ r = ordL n A k) ∧ w.toInt = a ∧ 0 ≤ a ∧ a ≤ 9999
theorem mPs_step {n c : Nat} {A : Nat → Bool} {S : Option (Int × List Nat)} {b : Int32} {w x : Int64} (h : MPs n A S b w) (hn : n ≤ 8) (hc : c < fac n) (h0 : 0 ≤ x.toInt) (h1 : x.toInt ≤ 9999) :
    ((b < 0 ∨ w < x) → MPs n A (selP S x.toInt (ordL n A c)) (nI c) x) ∧ (¬ (b < 0 ∨ w < x) → MPs n A (selP S x.toInt (ordL n A c)) b w) := by
  have hf := fac_le n hn
  cases S with
  | none =>
    have hb : b = -1 := h
    exact ⟨fun _ => ⟨⟨c, rfl, hc, rfl⟩, rfl, h0, h1⟩, fun z => absurd (Or.inl (by rw [hb]; decide)) z⟩
  | some t =>
    obtain ⟨a, r⟩ := t
    obtain ⟨⟨k, k1, k2, k3⟩, p1, p2, p3⟩ := h
    have hb : ¬ b < 0 := by
      rw [i_lt (show b.toInt = (k : Int) by rw [k1]; exact nI_toInt (by omega)) i32_0]; omega
    have hcn : (b < 0 ∨ w < x) ↔ a < x.toInt := by
      rw [l_lt p1 rfl]
      exact ⟨fun z => z.elim (fun q => absurd q hb) id, Or.inr⟩
    unfold selP
    dsimp only
    by_cases q : a < x.toInt
    · rw [if_pos q]
      exact ⟨fun _ => ⟨⟨c, rfl, hc, rfl⟩, rfl, h0, h1⟩, fun z => absurd (hcn.mpr q) z⟩
    · rw [if_neg q]
      exact ⟨fun z => absurd (hcn.mp z) q, fun _ => ⟨⟨k, k1, k2, k3⟩, p1, p2, p3⟩⟩
theorem shl_np : ∀ n, n < 9 → ((1 : Int32) <<< (nI n &&& 31)) = nI (2 ^ n) := by decide +kernel
