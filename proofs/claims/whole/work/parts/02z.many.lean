/-! many minutes with the seats as they are -/
section MANY
variable {T : Nat → Nat → Int} {ns np : Nat} {M : Int} {u : Nat → Int}
theorem zGo_split (hT : TOK T ns np) (hO : NOK T ns np (fun _ => 2 * M) M u) : ∀ n : Nat, (∀ p, p < np → zGo T ns np u n (20 + p) = u (20 + p)) ∧ (∀ p, p < np → zGo T ns np u n (10 + p) = (zSts T p (u (20 + p)) (u (10 + p), u (u (20 + p)).toNat) n).1) ∧ (∀ p b : Nat, p < np → b < ns → u (20 + p) = (b : Int) → zGo T ns np u n b = (zSts T p (u (20 + p)) (u (10 + p), u (u (20 + p)).toNat) n).2) ∧ (∀ b, b < ns → zEmpty u b np → zGo T ns np u n b = zLos T b (u b) n) ∧ (∀ p, p < np → zGo T ns np u n (30 + p) = u (30 + p) + zCm T p (u (20 + p)) (u (10 + p), u (u (20 + p)).toNat) n)
  | 0 => ⟨fun _ _ => rfl, fun _ _ => rfl, fun p b _ _ h => by rw [zGo, zSts, h, Int.toNat_natCast], fun _ _ _ => rfl, fun p _ => by rw [zGo, zCm, Int.add_zero]⟩
  | n + 1 => by
    obtain ⟨h1, h2, h3, h4, h5⟩ := zGo_split hT hO n
    have hk := zGo_ok hT hO n
    obtain ⟨p1, p2, p3, p4, p5⟩ := zPass_one hT hk
    have t1 := hT.1
    have t2 := hT.2.1
    have hE : ∀ b, zEmpty (zGo T ns np u n) b np ↔ zEmpty u b np := fun b => by
      rw [zEmpty_iff, zEmpty_iff]
      refine forall_congr' fun q => forall_congr' fun hq => ?_
      rw [h1 q hq]
    have sits : ∀ p, p < np → ∀ b : Nat, u (20 + p) = (b : Int) → zM T (zGo T ns np u n) p = zSts T p (u (20 + p)) (u (10 + p), u (u (20 + p)).toNat) (n + 1) := fun p hp b hb => by
      have sb := (hO.2.1 p hp).2.1
      unfold zM
      rw [zSts, h1 p hp, h2 p hp]
      congr 1
      rw [hb, Int.toNat_natCast]
      have := h3 p b hp (by omega) hb
      rw [hb, Int.toNat_natCast] at this
      rw [this]
    have e1 : ∀ p, p < np → (zM T (zGo T ns np u n) p).1 = (zSts T p (u (20 + p)) (u (10 + p), u (u (20 + p)).toNat) (n + 1)).1 := fun p hp => by
      by_cases q : 0 ≤ u (20 + p)
      · obtain ⟨b, hb⟩ : ∃ b : Nat, u (20 + p) = (b : Int) := ⟨(u (20 + p)).toNat, by omega⟩
        rw [sits p hp b hb]
      · unfold zM
        rw [zSts, h1 p hp, h2 p hp, zSt_up (by omega), zSt_up (by omega)]
    refine ⟨fun p hp => ?_, fun p hp => ?_, fun p b hp hb hs => ?_, fun b hb he => ?_, fun p hp => ?_⟩
    · rw [zGo, p5 p hp, h1 p hp]
    · rw [zGo, p1 p hp, e1 p hp]
    · rw [zGo, p2 p b hp hb (by rw [h1 p hp]; exact hs), sits p hp b hs]
    · rw [zGo, p3 b hb ((hE b).mpr he), h4 b hb he, zLos]
    · rw [zGo, p4 p hp, h5 p hp, e1 p hp, zCm]; omega
end MANY
/-- all stand, nobody was cold yet -/
def zUp (v : Nat → Int) : Nat → Int := fun i => if 20 ≤ i ∧ i < 28 then -1 else if 30 ≤ i ∧ i < 38 then 0 else v i
theorem zUp_s {v : Nat → Int} {p : Nat} (h : p < 8) : zUp v (20 + p) = -1 := if_pos (by omega)
theorem zUp_c {v : Nat → Int} {p : Nat} (h : p < 8) : zUp v (30 + p) = 0 := by unfold zUp; rw [if_neg (by omega), if_pos (by omega)]
theorem zUp_o {v : Nat → Int} {j : Nat} (h : j < 20 ∨ 40 ≤ j) : zUp v j = v j := by unfold zUp; rw [if_neg (by omega), if_neg (by omega)]
theorem zUp_ok {T : Nat → Nat → Int} {ns np : Nat} {k : Nat → Int} {M : Int} {v : Nat → Int} (hT : TOK T ns np) (hO : NOK T ns np k M v) : NOK T ns np k M (zUp v) := by
  obtain ⟨t1, t2, -⟩ := hT
  obtain ⟨h1, h2, h3, h4, h5, h6, h7, h8⟩ := hO
  refine ⟨fun c hc => ?_, fun q hq => ?_, fun q r hq hr hn he => ?_, fun q c hq hc => ?_, ?_, ?_, ?_, ?_⟩
  · rw [zUp_o (by omega)]; exact h1 c hc
  · rw [zUp_o (j := 10 + q) (by omega), zUp_o (j := 40 + q) (by omega), zUp_o (j := 50 + q) (by omega), zUp_s (by omega), zUp_c (by omega)]
    have := h2 q hq
    omega
  · rw [zUp_s (by omega)]
  · rw [zUp_o (by omega)]; exact h4 q c hq hc
  · rw [zUp_o (by omega)]; exact h5
  · rw [zUp_o (by omega)]; exact h6
  · rw [zUp_o (by omega)]; exact h7
  · rw [zUp_o (by omega), zSum_cong (v := zUp v) (u := v) (fun i hi => zUp_o (by omega)), zSum_cong (v := zUp v) (u := v) (fun i hi => zUp_o (by omega))]; exact h8
/-! palms -/
def pStep (mt : Nat → Nat → Bool) (i : Int) (p j : Nat) (s : Int × Option Int) : Int × Option Int :=
  match s.2 with
  | some _ => s
  | none => if mt p j then (if s.1 = i then (s.1, some (100 * p + j)) else (s.1 + 1, none)) else s
def pIn (mt : Nat → Nat → Bool) (i : Int) (p : Nat) (s : Int × Option Int) : Nat → Int × Option Int
  | 0 => s
  | j + 1 => pStep mt i p (j + 1) (pIn mt i p s j)
def pOut (mt : Nat → Nat → Bool) (i : Int) (m : Nat) : Nat → Int × Option Int
  | 0 => (0, none)
  | p + 1 => pIn mt i p (pOut mt i m p) m
theorem pStep_some {mt : Nat → Nat → Bool} {i : Int} {p j : Nat} {s : Int × Option Int} {a : Int} (h : s.2 = some a) : pStep mt i p j s = s := by unfold pStep; rw [h]
theorem pIn_some {mt : Nat → Nat → Bool} {i : Int} {p : Nat} {s : Int × Option Int} {a : Int} {j : Nat} (h : (pIn mt i p s j).2 = some a) : ∀ d, (pIn mt i p s (j + d)).2 = some a
  | 0 => h
  | d + 1 => by
    have := pIn_some h d
    show (pStep mt i p (j + d + 1) (pIn mt i p s (j + d))).2 = some a
    rw [pStep_some this]; exact this
theorem pOut_some {mt : Nat → Nat → Bool} {i : Int} {m p : Nat} {a : Int} (h : (pOut mt i m p).2 = some a) : ∀ d, (pOut mt i m (p + d)).2 = some a
  | 0 => h
  | d + 1 => by
    have := pOut_some h d
    have e := pIn_some (mt := mt) (i := i) (p := p + d) (s := pOut mt i m (p + d)) (j := 0) this m
    rwa [Nat.zero_add] at e
def pAns (mt : Nat → Nat → Bool) (i : Int) (m np : Nat) : Int :=
  match (pOut mt i m np).2 with
  | some a => a
  | none => if i = -1 then (pOut mt i m np).1 else -1
theorem pAns_in {mt : Nat → Nat → Bool} {i : Int} {m np p j : Nat} {a : Int} (hp : p < np) (hj : j ≤ m) (h : (pIn mt i p (pOut mt i m p) j).2 = some a) : pAns mt i m np = a := by
  have e := pIn_some h (m - j)
  rw [show j + (m - j) = m by omega] at e
  have e2 := pOut_some (p := p + 1) (m := m) (show (pOut mt i m (p + 1)).2 = some a from e) (np - (p + 1))
  rw [show p + 1 + (np - (p + 1)) = np by omega] at e2
  unfold pAns
  rw [e2]
theorem pStep_hit {mt : Nat → Nat → Bool} {i : Int} {p j : Nat} {s : Int × Option Int} (h : s.2 = none) (hm : mt p j = true) (hi : s.1 = i) : pStep mt i p j s = (s.1, some (100 * (p : Int) + (j : Int))) := by
  unfold pStep; rw [h]; dsimp only; rw [if_pos hm, if_pos hi]
theorem pStep_more {mt : Nat → Nat → Bool} {i : Int} {p j : Nat} {s : Int × Option Int} (h : s.2 = none) (hm : mt p j = true) (hi : ¬ s.1 = i) : pStep mt i p j s = (s.1 + 1, none) := by
  unfold pStep; rw [h]; dsimp only; rw [if_pos hm, if_neg hi]
theorem pStep_no {mt : Nat → Nat → Bool} {i : Int} {p j : Nat} {s : Int × Option Int} (hm : ¬ mt p j = true) : pStep mt i p j s = s := by
  unfold pStep
  split
  · rfl
  · rw [if_neg hm]
/-- what the palm feels: p sat j minutes of m -/
def pFelt (T : Nat → Nat → Int) (v : Nat → Int) (b m p j : Nat) : Int := zLos T b (zSts T p (b : Int) (v (10 + p), v b) j).2 (m - j)
def pMt (T : Nat → Nat → Int) (v : Nat → Int) (b m : Nat) (x e : Int) (p j : Nat) : Bool := decide (x - e ≤ pFelt T v b m p j ∧ pFelt T v b m p j ≤ x + e)
def aPalms (T : Nat → Nat → Int) (ns np : Nat) (v : Nat → Int) (b m x e i : Int) : Int :=
  if 0 ≤ b ∧ b < ns then (if (1 ≤ m ∧ m ≤ 60) ∧ (0 ≤ x ∧ x ≤ 9999) ∧ (0 ≤ e ∧ e ≤ 9999) then pAns (pMt T v b.toNat m.toNat x e) i m.toNat np else -1000000002) else -1000000001
theorem zLos_bd {T : Nat → Nat → Int} {ns np b : Nat} {h : Int} (hT : TOK T ns np) (hb : b < ns) (h0 : 0 ≤ h) (h1 : h ≤ 9999) : ∀ n, 0 ≤ zLos T b h n ∧ zLos T b h n ≤ 9999
  | 0 => ⟨h0, h1⟩
  | n + 1 => by
    have ih := zLos_bd hT hb h0 h1 n
    have := lossZ_bd (pt := T 1 b) (hT.2.2.1 b hb).2.2.1 ih.1
    rw [zLos]
    omega
section PAL
variable {T : Nat → Nat → Int} {ns np : Nat} {M : Int} {v : Nat → Int}
/-- the trial row of palms behind t minutes: p sits on b for j minutes, then stands -/
noncomputable def pRow (T : Nat → Nat → Int) (ns np : Nat) (v : Nat → Int) (p b j t : Nat) : Nat → Int :=
  if t ≤ j then zGo T ns np (uz (zUp v) (20 + p) (b : Int)) t else zGo T ns np (uz (zGo T ns np (uz (zUp v) (20 + p) (b : Int)) j) (20 + p) (-1)) (t - j)
theorem pR0_ok (hT : TOK T ns np) (hO : NOK T ns np (fun _ => 2 * M) M v) {p b : Nat} (hp : p < np) (hb : b < ns) : NOK T ns np (fun _ => 2 * M) M (uz (zUp v) (20 + p) (b : Int)) := by
  have t2 := hT.2.1
  refine NOK_seat hT (zUp_ok hT hO) hp (Or.inr ⟨by omega, by omega, fun q hq hne => ?_⟩)
  rw [zUp_s (by omega)]
  omega
theorem pR1_ok (hT : TOK T ns np) (hO : NOK T ns np (fun _ => 2 * M) M v) {p b : Nat} (hp : p < np) (hb : b < ns) (j : Nat) : NOK T ns np (fun _ => 2 * (M + j)) (M + j) (uz (zGo T ns np (uz (zUp v) (20 + p) (b : Int)) j) (20 + p) (-1)) :=
  NOK_seat hT (zGo_ok hT (pR0_ok hT hO hp hb) j) hp (Or.inl rfl)
theorem pRow_ok (hT : TOK T ns np) (hO : NOK T ns np (fun _ => 2 * M) M v) {p b : Nat} (hp : p < np) (hb : b < ns) (j t : Nat) : NOK T ns np (fun _ => 2 * (M + t)) (M + t) (pRow T ns np v p b j t) := by
  unfold pRow
  split
  · exact zGo_ok hT (pR0_ok hT hO hp hb) t
  · have := zGo_ok hT (pR1_ok hT hO hp hb j) (t - j)
    rwa [show M + (j : Int) + ((t - j : Nat) : Int) = M + t by omega] at this
theorem pRow_sit (hT : TOK T ns np) (hO : NOK T ns np (fun _ => 2 * M) M v) {p b j t : Nat} (hp : p < np) (hb : b < ns) (h : t < j) : zPass T ns np (uz (pRow T ns np v p b j t) (20 + p) (b : Int)) = pRow T ns np v p b j (t + 1) := by
  have e : pRow T ns np v p b j t (20 + p) = (b : Int) := by
    unfold pRow
    rw [if_pos (by omega), (zGo_split hT (pR0_ok hT hO hp hb) t).1 p hp, uz_eq]
  rw [uz_same e.symm]
  unfold pRow
  rw [if_pos (by omega), if_pos (by omega), zGo]
theorem pRow_up (hT : TOK T ns np) (hO : NOK T ns np (fun _ => 2 * M) M v) {p b j t : Nat} (hp : p < np) (hb : b < ns) (h : j ≤ t) : zPass T ns np (uz (pRow T ns np v p b j t) (20 + p) (-1)) = pRow T ns np v p b j (t + 1) := by
  rcases Nat.lt_or_ge j t with l | l
  · have e : pRow T ns np v p b j t (20 + p) = -1 := by
      unfold pRow
      rw [if_neg (by omega), (zGo_split hT (pR1_ok hT hO hp hb j) (t - j)).1 p hp, uz_eq]
    rw [uz_same e.symm]
    unfold pRow
    rw [if_neg (by omega), if_neg (by omega), show t + 1 - j = t - j + 1 by omega, zGo]
  · have e : t = j := by omega
    subst e
    unfold pRow
    rw [if_pos (Nat.le_refl _), if_neg (by omega), show t + 1 - t = 0 + 1 by omega, zGo, zGo]
theorem pRow_felt (hT : TOK T ns np) (hO : NOK T ns np (fun _ => 2 * M) M v) {p b j m : Nat} (hp : p < np) (hb : b < ns) (h : j ≤ m) : pRow T ns np v p b j m b = pFelt T v b m p j := by
  have t1 := hT.1
  have t2 := hT.2.1
  have hu : uz (zUp v) (20 + p) (b : Int) (20 + p) = (b : Int) := uz_eq _ _ _
  have s0 := (zGo_split hT (pR0_ok hT hO hp hb) j).2.2.1 p b hp hb hu
  rw [hu, Int.toNat_natCast, uz_ne (by omega), uz_ne (by omega), zUp_o (by omega), zUp_o (by omega)] at s0
  unfold pFelt
  rw [← s0]
  unfold pRow
  rcases Nat.lt_or_ge j m with l | l
  · rw [if_neg (by omega)]
    have hE : zEmpty (uz (zGo T ns np (uz (zUp v) (20 + p) (b : Int)) j) (20 + p) (-1)) b np := zEmpty_iff.mpr fun q hq => by
      by_cases e : q = p
      · subst e; rw [uz_eq]; omega
      · rw [uz_ne (by omega), (zGo_split hT (pR0_ok hT hO hp hb) j).1 q hq, uz_ne (by omega), zUp_s (by omega)]; omega
    rw [(zGo_split hT (pR1_ok hT hO hp hb j) (m - j)).2.2.2.1 b hb hE, uz_ne (by omega)]
  · have e : j = m := by omega
    subst e
    rw [if_pos (Nat.le_refl _), Nat.sub_self, zLos]
end PAL
