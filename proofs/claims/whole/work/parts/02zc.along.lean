/-! passing a stone along -/
def frU (T : Nat → Nat → Int) (q : Nat) : Int := frostZ (T 2 q) (T 4 0) (T 4 1) false
theorem zSts_stand {T : Nat → Nat → Int} {q : Nat} {s w h : Int} (hs : s < 0) (hF : 0 ≤ frU T q) (hw : 0 ≤ w) : ∀ n : Nat, (zSts T q s (w, h) n).1 = maxZ 0 (w - n * frU T q)
  | 0 => by
    rw [zSts, Int.natCast_zero, Int.zero_mul, Int.sub_zero]
    unfold maxZ
    dsimp only
    split <;> omega
  | n + 1 => by
    have e : ((n + 1 : Nat) : Int) * frU T q = n * frU T q + frU T q := by rw [Int.natCast_add, Int.add_mul]; simp
    rw [zSts, zSt_up hs, zSts_stand hs hF hw n, e]
    generalize (n : Int) * frU T q = a
    show maxZ 0 (w - a) - minZ (frU T q) (maxZ 0 (w - a)) = maxZ 0 (w - (a + frU T q))
    generalize frU T q = f at hF
    unfold maxZ minZ
    split <;> split <;> split <;> omega
/-- what sits down as the t-th, behind m minutes each: the stone's heat behind that -/
def pSt (T : Nat → Nat → Int) (v : Nat → Int) (b m t q : Nat) (h : Int) : Int := (zSts T q (b : Int) (maxZ 0 (v (10 + q) - ((t * m : Nat) : Int) * frU T q), h) m).2
theorem dvZ_mono {d e R : Int} (hR : R = 4 ∨ R = 2 ∨ R = 8) (h : d ≤ e) : dvZ d R ≤ dvZ e R ∧ dvZ e R ≤ dvZ d R + (e - d) := by
  unfold dvZ
  rcases hR with rfl | rfl | rfl <;> split <;> split <;> omega
theorem resZ_c (k : Int) : resZ k = 4 ∨ resZ k = 2 ∨ resZ k = 8 := by
  unfold resZ
  by_cases k1 : k = 1
  · exact Or.inl (if_pos k1)
  · rw [if_neg k1]
    by_cases k3 : k = 3
    · exact Or.inr (Or.inl (if_pos k3))
    · exact Or.inr (Or.inr (if_neg k3))
def clZ (k f : Int) : Int := if (k = 2 ∧ 0 < f) ∨ (k = 3 ∧ f < 0) then 0 else f
theorem clZ_mono {k f g c : Int} (h1 : f ≤ g) (h2 : g ≤ f + c) (hc : 0 ≤ c) : clZ k f ≤ clZ k g ∧ clZ k g ≤ clZ k f + c := by
  unfold clZ
  split <;> split <;> omega
theorem flowZ_cl (k z w h : Int) : flowZ k z w h = if z - h < clZ k (dvZ (w - h) (resZ k)) then z - h else clZ k (dvZ (w - h) (resZ k)) := rfl
theorem flowZ_mono {k z w h w2 h2 : Int} (hw : w ≤ w2) (hh : h ≤ h2) : h + flowZ k z w h ≤ h2 + flowZ k z w2 h2 ∧ w - flowZ k z w h ≤ w2 - flowZ k z w2 h2 := by
  have a := dvZ_mono (resZ_c k) (show w - h ≤ w2 - h by omega)
  have b := dvZ_mono (resZ_c k) (show w2 - h2 ≤ w2 - h by omega)
  have a2 := clZ_mono (k := k) a.1 a.2 (by omega)
  have b2 := clZ_mono (k := k) b.1 b.2 (by omega)
  rw [flowZ_cl, flowZ_cl]
  generalize clZ k (dvZ (w - h) (resZ k)) = f1 at a2 ⊢
  generalize clZ k (dvZ (w2 - h) (resZ k)) = f2 at a2 b2
  generalize clZ k (dvZ (w2 - h2) (resZ k)) = f3 at b2 ⊢
  split <;> split <;> omega
theorem zSt_mono {T : Nat → Nat → Int} {q b : Nat} {x y : Int × Int} (h1 : x.1 ≤ y.1) (h2 : x.2 ≤ y.2) : (zSt T q (b : Int) x).1 ≤ (zSt T q (b : Int) y).1 ∧ (zSt T q (b : Int) x).2 ≤ (zSt T q (b : Int) y).2 := by
  have a := flowZ_mono (k := T 2 q) (z := T 0 b) h1 h2
  rw [zSt_dn, zSt_dn]
  refine ⟨?_, a.1⟩
  dsimp only
  generalize x.1 - flowZ (T 2 q) (T 0 b) x.1 x.2 = p at a ⊢
  generalize y.1 - flowZ (T 2 q) (T 0 b) y.1 y.2 = r at a ⊢
  generalize frostZ (T 2 q) (T 4 0) (T 4 1) true = f
  have := a.2
  unfold minZ
  split <;> split <;> omega
theorem zSts_mono {T : Nat → Nat → Int} {q b : Nat} {x y : Int × Int} (h1 : x.1 ≤ y.1) (h2 : x.2 ≤ y.2) : ∀ n, (zSts T q (b : Int) x n).1 ≤ (zSts T q (b : Int) y n).1 ∧ (zSts T q (b : Int) x n).2 ≤ (zSts T q (b : Int) y n).2
  | 0 => ⟨h1, h2⟩
  | n + 1 => zSt_mono (zSts_mono h1 h2 n).1 (zSts_mono h1 h2 n).2
theorem pSt_mono {T : Nat → Nat → Int} {v : Nat → Int} {b m t q : Nat} {h h2 : Int} (hh : h ≤ h2) : pSt T v b m t q h ≤ pSt T v b m t q h2 := by
  unfold pSt
  exact (zSts_mono (x := (_, h)) (y := (_, h2)) (Int.le_refl _) hh m).2
def heatL (T : Nat → Nat → Int) (v : Nat → Int) (b m : Nat) : Nat → Int → List Nat → Int
  | _, h, [] => h
  | t, h, x :: o => heatL T v b m (t + 1) (pSt T v b m t x h) o
theorem heatL_mono {T : Nat → Nat → Int} {v : Nat → Int} {b m : Nat} : ∀ (o : List Nat) (t : Nat) {h h2 : Int}, h ≤ h2 → heatL T v b m t h o ≤ heatL T v b m t h2 o
  | [], _, _, _, hh => hh
  | _ :: o, t, _, _, hh => heatL_mono o (t + 1) (pSt_mono hh)
theorem heatL_snoc {T : Nat → Nat → Int} {v : Nat → Int} {b m x : Nat} : ∀ (o : List Nat) (t : Nat) (h : Int), heatL T v b m t h (o ++ [x]) = pSt T v b m (t + o.length) x (heatL T v b m t h o)
  | [], _, _ => rfl
  | y :: o, t, h => by
    show heatL T v b m (t + 1) (pSt T v b m t y h) (o ++ [x]) = pSt T v b m (t + (o.length + 1)) x (heatL T v b m (t + 1) (pSt T v b m t y h) o)
    rw [heatL_snoc o (t + 1), show t + 1 + o.length = t + (o.length + 1) by omega]
section PSB
variable {T : Nat → Nat → Int} {v : Nat → Int} {b m t q ns np : Nat} {h M : Int} {k : Nat → Int}
theorem frU_bd (hT : TOK T ns np) (q : Nat) : 0 ≤ frU T q ∧ frU T q ≤ 99 := frostZ_bd hT.2.2.2.2.1 hT.2.2.2.2.2.1 hT.2.2.2.2.2.2.1 hT.2.2.2.2.2.2.2.1
theorem wt_bd {a w f : Int} (h1 : w ≤ 9999) (h2 : 0 ≤ a) (hf : 0 ≤ f) : 0 ≤ maxZ 0 (w - a * f) ∧ maxZ 0 (w - a * f) ≤ 9999 := by
  have := Int.mul_nonneg h2 hf
  unfold maxZ
  split <;> omega
theorem pSt_sok (hT : TOK T ns np) (hO : NOK T ns np k M v) (hq : q < np) (hb : b < ns) (h0 : 0 ≤ h) (h1 : h ≤ T 0 b) : SOK T ns (b : Int) (maxZ 0 (v (10 + q) - ((t * m : Nat) : Int) * frU T q), h) := by
  have bw := (hO.2.1 q hq).1
  have a := wt_bd (a := ((t * m : Nat) : Int)) bw.2 (by omega) (frU_bd hT q).1
  exact ⟨a.1, a.2, by omega, by omega, fun _ => by rw [Int.toNat_natCast]; exact ⟨h0, h1⟩⟩
theorem pSt_bd (hT : TOK T ns np) (hO : NOK T ns np k M v) (hq : q < np) (hb : b < ns) (h0 : 0 ≤ h) (h1 : h ≤ T 0 b) : 0 ≤ pSt T v b m t q h ∧ pSt T v b m t q h ≤ T 0 b := by
  have a := (zSts_ok hT hq (pSt_sok (t := t) (m := m) hT hO hq hb h0 h1) m).2.2.2.2 (by omega)
  rw [Int.toNat_natCast] at a
  exact a
end PSB
/-! who is left: the n-th of them, all orders in their order -/
def cntA (A : Nat → Bool) : Nat → Nat
  | 0 => 0
  | n + 1 => cntA A n + if A n then 1 else 0
def nthA (A : Nat → Bool) (s : Nat) : Nat → Nat
  | 0 => 0
  | n + 1 => if A n = true ∧ cntA A n = s then n else nthA A s n
def rmA (A : Nat → Bool) (x : Nat) : Nat → Bool := fun q => A q && decide (q ≠ x)
def fac : Nat → Nat
  | 0 => 1
  | n + 1 => (n + 1) * fac n
def ordL : Nat → (Nat → Bool) → Nat → List Nat
  | 0, _, _ => []
  | n + 1, A, c => nthA A (c / fac n) 8 :: ordL n (rmA A (nthA A (c / fac n) 8)) (c % fac n)
theorem fac_pos : ∀ n, 0 < fac n
  | 0 => Nat.zero_lt_one
  | n + 1 => Nat.mul_pos (Nat.succ_pos n) (fac_pos n)
theorem fac_le : ∀ n, n ≤ 8 → fac n ≤ 40320 := by decide
section CNT
variable {A B : Nat → Bool}
theorem cntA_y {n : Nat} (h : A n = true) : cntA A (n + 1) = cntA A n + 1 := by rw [cntA, h]; rfl
theorem cntA_n {n : Nat} (h : A n = false) : cntA A (n + 1) = cntA A n := by rw [cntA, h]; rfl
theorem cntA_mono {a : Nat} : ∀ {b : Nat}, a ≤ b → cntA A a ≤ cntA A b
  | 0, h => by rw [show a = 0 by omega]; exact Nat.le_refl _
  | b + 1, h => by
    by_cases e : a = b + 1
    · rw [e]; exact Nat.le_refl _
    · have := cntA_mono (show a ≤ b by omega)
      rw [cntA]; omega
theorem cntA_cong {n : Nat} (h : ∀ q, q < n → A q = B q) : cntA A n = cntA B n := by
  induction n with
  | zero => rfl
  | succ n ih => rw [cntA, cntA, ih (fun q hq => h q (by omega)), h n (by omega)]
theorem cntA_gap {a : Nat} (hs : ∀ q, B q = true → A q = true) : ∀ {b : Nat}, a ≤ b → cntA A a = cntA A b → cntA B a = cntA B b
  | 0, h, _ => by rw [show a = 0 by omega]
  | b + 1, h, e => by
    by_cases q : a = b + 1
    · rw [q]
    · have h1 := cntA_mono (A := A) (a := a) (b := b) (by omega)
      have h2 := cntA_mono (A := A) (a := b) (b := b + 1) (by omega)
      have hn : A b = false := by
        cases u : A b with
        | false => rfl
        | true => have := cntA_y u; omega
      have hm : B b = false := by
        cases u : B b with
        | false => rfl
        | true => rw [hs b u] at hn; exact absurd hn (by decide)
      rw [cntA_n hm]
      exact cntA_gap hs (by omega) (by omega)
theorem cntA_le : ∀ n : Nat, cntA A n ≤ n
  | 0 => Nat.le_refl _
  | n + 1 => by
    have := cntA_le n
    rw [cntA]
    split <;> omega
theorem nthA_eq {p s : Nat} (hp : A p = true) (hs : cntA A p = s) : ∀ {N : Nat}, p < N → nthA A s N = p
  | 0, h => absurd h (Nat.not_lt_zero _)
  | n + 1, h => by
    rw [nthA]
    by_cases e : p = n
    · subst e; rw [if_pos ⟨hp, hs⟩]
    · have := cntA_mono (A := A) (a := p + 1) (b := n) (by omega)
      rw [cntA_y hp] at this
      rw [if_neg (fun z => by have := z.2; omega)]
      exact nthA_eq hp hs (by omega)
theorem nthA_ok {s : Nat} : ∀ {N : Nat}, s < cntA A N → A (nthA A s N) = true ∧ cntA A (nthA A s N) = s ∧ nthA A s N < N
  | 0, h => absurd h (Nat.not_lt_zero _)
  | n + 1, h => by
    rw [nthA]
    by_cases e : A n = true ∧ cntA A n = s
    · rw [if_pos e]; exact ⟨e.1, e.2, by omega⟩
    · rw [if_neg e]
      have hl : s < cntA A n := by
        cases u : A n with
        | true => rw [cntA_y u] at h; have : cntA A n ≠ s := fun z => e ⟨u, z⟩; omega
        | false => rw [cntA_n u] at h; exact h
      have ih := nthA_ok hl
      exact ⟨ih.1, ih.2.1, by omega⟩
theorem rmA_at (A : Nat → Bool) (x : Nat) : rmA A x x = false := by unfold rmA; simp
theorem rmA_ne {x q : Nat} (h : q ≠ x) : rmA A x q = A q := by unfold rmA; simp [h]
theorem rmA_sub {x q : Nat} (h : rmA A x q = true) : A q = true := by
  unfold rmA at h
  rw [Bool.and_eq_true] at h
  exact h.1
theorem cntA_rm {x : Nat} (hx : A x = true) : ∀ {N : Nat}, x < N → cntA (rmA A x) N + 1 = cntA A N
  | 0, h => absurd h (Nat.not_lt_zero _)
  | n + 1, h => by
    by_cases e : x = n
    · subst e
      rw [cntA_n (rmA_at A x), cntA_y hx, cntA_cong (B := A) (fun q hq => rmA_ne (by omega))]
    · have ih := cntA_rm hx (N := n) (by omega)
      rw [cntA, cntA, rmA_ne (by omega)]; omega
end CNT
/-- what an order has in it -/
theorem ordL_in : ∀ {n : Nat} {A : Nat → Bool} {c : Nat}, cntA A 8 = n → c < fac n → (ordL n A c).length = n ∧ (∀ k, k < n → A ((ordL n A c).getD k 0) = true ∧ (ordL n A c).getD k 0 < 8) ∧ ∀ i k, i < k → k < n → (ordL n A c).getD i 0 ≠ (ordL n A c).getD k 0
  | 0, _, _, _, _ => ⟨rfl, fun k h => absurd h (Nat.not_lt_zero _), fun _ k _ h => absurd h (Nat.not_lt_zero _)⟩
  | n + 1, A, c, hA, hc => by
    have hf := fac_pos n
    have hlt : c / fac n < cntA A 8 := by
      rw [hA, Nat.div_lt_iff_lt_mul hf]; exact hc
    obtain ⟨h1, h2, h3⟩ := nthA_ok hlt
    rw [ordL]
    generalize nthA A (c / fac n) 8 = x at h1 h2 h3 ⊢
    have hr := cntA_rm h1 h3
    obtain ⟨i1, i2, i3⟩ := ordL_in (n := n) (A := rmA A x) (c := c % fac n) (by omega) (Nat.mod_lt _ hf)
    refine ⟨by rw [List.length_cons, i1], fun k hk => ?_, fun i k hik hk => ?_⟩
    · cases k with
      | zero => exact ⟨h1, h3⟩
      | succ k => exact ⟨rmA_sub (i2 k (by omega)).1, (i2 k (by omega)).2⟩
    · cases k with
      | zero => exact absurd hik (Nat.not_lt_zero _)
      | succ k =>
        cases i with
        | zero =>
          intro z
          have := (i2 k (by omega)).1
          rw [← show x = (ordL n (rmA A x) (c % fac n)).getD k 0 from z, rmA_at] at this
          exact absurd this (by decide)
        | succ i => exact i3 i k (by omega) (by omega)
/-! the best so far -/
def selP (S : Option (Int × List Nat)) (h : Int) (o : List Nat) : Option (Int × List Nat) :=
  match S with
  | none => some (h, o)
  | some (a, r) => if a < h then some (h, o) else some (a, r)
def pF (H : Nat → Int × List Nat) (S : Option (Int × List Nat)) (lo : Nat) : Nat → Option (Int × List Nat)
  | 0 => S
  | n + 1 => selP (pF H S lo n) (H (lo + n)).1 (H (lo + n)).2
def leS (S : Option (Int × List Nat)) (x : Int) : Prop := ∃ a r, S = some (a, r) ∧ x ≤ a
section PF
variable {H K : Nat → Int × List Nat} {S : Option (Int × List Nat)} {lo lo2 : Nat} {x h : Int} {o : List Nat}
theorem leS_new : leS (selP S h o) h := by
  cases S with
  | none => exact ⟨h, o, rfl, Int.le_refl _⟩
  | some t =>
    obtain ⟨a, r⟩ := t
    unfold selP
    dsimp only
    by_cases q : a < h
    · rw [if_pos q]; exact ⟨h, o, rfl, Int.le_refl _⟩
    · rw [if_neg q]; exact ⟨a, r, rfl, by omega⟩
theorem leS_sel (hx : leS S x) : leS (selP S h o) x := by
  obtain ⟨a, r, rfl, hx⟩ := hx
  unfold selP
  dsimp only
  by_cases q : a < h
  · rw [if_pos q]; exact ⟨h, o, rfl, by omega⟩
  · rw [if_neg q]; exact ⟨a, r, rfl, hx⟩
theorem selP_no (hx : leS S h) : selP S h o = S := by
  obtain ⟨a, r, rfl, hx⟩ := hx
  unfold selP
  dsimp only
  rw [if_neg (by omega)]
theorem leS_mono {y : Int} (hx : leS S x) (hy : y ≤ x) : leS S y := by
  obtain ⟨a, r, e, hx⟩ := hx
  exact ⟨a, r, e, by omega⟩
theorem leS_pF (hx : leS S x) : ∀ n, leS (pF H S lo n) x
  | 0 => hx
  | n + 1 => leS_sel (leS_pF hx n)
theorem leS_all {i : Nat} : ∀ {n : Nat}, i < n → leS (pF H S lo n) (H (lo + i)).1
  | 0, h => absurd h (Nat.not_lt_zero _)
  | n + 1, h => by
    rw [pF]
    by_cases e : i = n
    · subst e; exact leS_new
    · exact leS_sel (leS_all (by omega))
theorem pF_no : ∀ {n : Nat}, (∀ i, i < n → leS S (H (lo + i)).1) → pF H S lo n = S
  | 0, _ => rfl
  | n + 1, h => by
    rw [pF, pF_no (fun i hi => h i (by omega))]
    exact selP_no (h n (by omega))
theorem pF_add (a : Nat) : ∀ b, pF H S lo (a + b) = pF H (pF H S lo a) (lo + a) b
  | 0 => rfl
  | b + 1 => by
    show selP (pF H S lo (a + b)) (H (lo + (a + b))).1 (H (lo + (a + b))).2 = selP (pF H (pF H S lo a) (lo + a) b) (H (lo + a + b)).1 (H (lo + a + b)).2
    rw [pF_add a b, Nat.add_assoc]
theorem pF_cong : ∀ {n : Nat}, (∀ i, i < n → H (lo + i) = K (lo2 + i)) → pF H S lo n = pF K S lo2 n
  | 0, _ => rfl
  | n + 1, h => by rw [pF, pF, pF_cong (fun i hi => h i (by omega)), h n (by omega)]
theorem pF_some : ∀ {n : Nat}, 0 < n → pF H S lo n ≠ none
  | 0, h => absurd h (Nat.lt_irrefl _)
  | n + 1, _ => by
    obtain ⟨a, r, e, -⟩ := leS_new (S := pF H S lo n) (h := (H (lo + n)).1) (o := (H (lo + n)).2)
    rw [pF, e]
    exact Option.some_ne_none _
end PF
