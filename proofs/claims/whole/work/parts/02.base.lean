/-! the base: one set of class numbers for the whole system, contracts over worlds, one row a call, one row a return -/
abbrev vwCl : List vw_C := [(RX0, TX0, 3), (RX1, TX1, 10), (RX2, TX2, 7), (RX3, TX3, 7), (RX4, TX4, 2), (RX5, TX5, 8), (RX6, TX6, 11), (RX7, TX7, 11), (RX8, TX8, 29)]
abbrev Gt : Type := va_G × ClassId × ClassId × ClassId × ClassId × ClassId × (Nat → Nat) × (Nat → Nat)
abbrev gT (G : Gt) : List (ClassId × FieldType) := [(G.2.1, .int), (G.2.2.1, .byte), (G.2.2.2.1, .long), (G.2.2.2.2.1, .boolean), (G.2.2.2.2.2.1, .object "WarmStones$Night")]
abbrev aI (G : Gt) (h n : Nat) (f : Nat → Int32) : Nat × va_E := (h, .inl (G.2.1, n, .inl f))
abbrev aB (G : Gt) (h n : Nat) (f : Nat → Int32) : Nat × va_E := (h, .inl (G.2.2.1, n, .inl f))
abbrev aJ (G : Gt) (h n : Nat) (f : Nat → Int64) : Nat × va_E := (h, .inl (G.2.2.2.1, n, .inr (.inl f)))
abbrev aZ (G : Gt) (h n : Nat) (f : Nat → Int32) : Nat × va_E := (h, .inl (G.2.2.2.2.1, n, .inl f))
abbrev aN (G : Gt) (h n : Nat) (f : Nat → Option Nat) : Nat × va_E := (h, .inl (G.2.2.2.2.2.1, n, .inr (.inr (.inr (.inr f)))))
/-- the nest mates' private methods that are called -/
def nwq : List (String × Nat × MethodName) := [("WarmStones", 9, yX5_init), ("WarmStones", 18, yX6_init), ("WarmStones", 28, yX1_init), ("WarmStones", 42, yX0_init), ("WarmStones", 49, yX4_init), ("WarmStones", 56, yX3_init), ("WarmStones", 63, yX2_init), ("WarmStones$Night", 96, yX7_ownedAt), ("WarmStones$Passing", 11, yX4_init), ("WarmStones$Passing", 47, yX7_within), ("WarmStones$Seating", 11, yX4_init), ("WarmStones$Seating", 54, yX7_within), ("WarmStones$Text", 135, yX7_within)]
def KK (G : Gt) (U : State) : Prop := va_K G.1 vwCl (gT G) U ∧ ∀ q ∈ nwq, va_Nw (.methodLinkNest q.1 q.2.1 q.2.2 "WarmStones") U
theorem KK.warm {G : Gt} {s U : State} (hW : s.WarmedH U.vm) (h : KK G s) : KK G U := ⟨va_K.moved hW.alike h.1, fun q hq => va_Nw.warmM hW (h.2 q hq)⟩
theorem KK.same {G : Gt} {s U : State} (hv : s.vm = U.vm) (h : KK G s) : KK G U := ⟨va_K.moved (by rw [hv]; exact Vm.Alike.refl U.vm) h.1, fun q hq => va_Nw.same rfl hv (h.2 q hq)⟩
/-- the text's nine words, as the class's String constants -/
def stI : List Nat := [54, 63, 68, 73, 114, 116, 118, 120, 122]
def stT : List String := ["stone", "person", "frost", "fine", "plain", "fat", "miser", "drain", "beggar"]
def stB : List (List Int32) := [[115, 116, 111, 110, 101], [112, 101, 114, 115, 111, 110], [102, 114, 111, 115, 116], [102, 105, 110, 101], [112, 108, 97, 105, 110], [102, 97, 116], [109, 105, 115, 101, 114], [100, 114, 97, 105, 110], [98, 101, 103, 103, 97, 114]]
def stL : List Nat := [5, 6, 5, 4, 5, 3, 5, 5, 6]
/-- the String constants, String's switch, the formatter that is only handed on -/
def SS (G : Gt) (A : Nat → Prop) (U : State) (H : Heap) : Prop := vk_S 9 stL stB G.2.2.2.2.2.2.1 G.2.2.2.2.2.2.2 A U H ∧ (∀ i, i < 9 → vk_R RX5 (stI.getD i 0) (stT.getD i "") (G.2.2.2.2.2.2.1 i) U) ∧ va_Z "java/lang/String" "COMPACT_STRINGS" "Z" (.int 1) A U H ∧ va_Zq "jdk/internal/util/Preconditions" "SIOOBE_FORMATTER" "Ljava/util/function/BiFunction;" A U H
theorem SS.same {G : Gt} {A : Nat → Prop} {s U : State} {H : Heap} (hv : s.vm = U.vm) (h : SS G A s H) : SS G A U H := by
  have ha : s.vm.Alike U.vm := by rw [hv]; exact Vm.Alike.refl U.vm
  exact ⟨h.1.moved ha, fun i hi => vk_R.same hv.symm (h.2.1 i hi), h.2.2.1.moved ha, h.2.2.2.moved ha⟩
theorem SS.on {G : Gt} {A B : Nat → Prop} {s U : State} {H : Heap} (hW : s.WarmedH U.vm) (h : SS G A s s.heap) (hk : ∀ q : Nat, q < s.heap.size → ¬ A q → H[q]? = s.heap[q]?) (hB : ∀ q, B q → A q) : SS G B U H :=
  ⟨((h.1.kept hk).moved hW.alike).narrow hB, fun i hi => vk_R.warm hW (h.2.1 i hi), ((h.2.2.1.kept hk).moved hW.alike).narrow hB, ((h.2.2.2.kept hk).moved hW.alike).narrow hB⟩
/-- a contract's start: the heap's size, the cells, the tables, the cells apart -/
def cPre (G : Gt) (ws : va_W) (sz : Nat) (U : State) : Prop := U.heap.size = sz ∧ va_P G.1 vwCl ws U.heap ∧ KK G U ∧ va_D (fun _ => True) ws ∧ SS G (va_A ws sz) U U.heap
/-- its end: the cells -/
def cPost (G : Gt) (A : Nat → Prop) (ws : va_W) (t : State) : Prop := va_P G.1 vwCl ws t.heap ∧ va_D A ws
abbrev cRm (F L : Nat) : Room := { frames := F, cells := 0, slots := 0, locals := L }
abbrev MetI (l : Launch) (y : MethodName) (wds : List Cond) (F L : Nat) (G : Gt) (args : List Value) (ws : va_W) (sz : Nat) {S : Type} (post : Int32 → S → Prop) (w1 : S → va_W) : Prop :=
  Met l y wds (cRm F L) (va_Pc args (cPre G ws sz)) (va_Qi post (fun u => cPost G (va_A ws sz) (w1 u)) (va_A ws sz)) 0 0 (va_A ws sz)
abbrev MetL (l : Launch) (y : MethodName) (wds : List Cond) (F L : Nat) (G : Gt) (args : List Value) (ws : va_W) (sz : Nat) {S : Type} (post : Int64 → S → Prop) (w1 : S → va_W) : Prop :=
  Met l y wds (cRm F L) (va_Pc args (cPre G ws sz)) (va_Ql post (fun u => cPost G (va_A ws sz) (w1 u)) (va_A ws sz)) 0 0 (va_A ws sz)
abbrev MetV (l : Launch) (y : MethodName) (wds : List Cond) (F L : Nat) (G : Gt) (args : List Value) (ws : va_W) (sz : Nat) {S : Type} (post : S → Prop) (w1 : S → va_W) : Prop :=
  Met l y wds (cRm F L) (va_Pc args (cPre G ws sz)) (va_Qv post (fun u => cPost G (va_A ws sz) (w1 u)) (va_A ws sz)) 0 0 (va_A ws sz)
/-- what stays the same through a method's body -/
def Cx (p : Program) (s : State) (m : MethodId) (args : Array Value) (meth : Method) (c : Code) (cc : ByteArray) (maxL : Nat) (ret : Option FieldType) (Ts : List Cond) (own : String) (G : Gt) : Prop :=
  p.tables.exec = Jvm.exec ∧ c.code = cc ∧ meth.sig.returnType = ret ∧ c.maxLocals = maxL ∧ s.vm.findClass own = some m.cls ∧ (∀ w ∈ Ts, w.before args s = true) ∧ meth.locks = false ∧ KK G s
theorem x_startI {l : Launch} {y : MethodName} {wds wds' : List Cond} {F L : Nat} {G : Gt} {av : List Value} {ws : va_W} {sz : Nat} {cc : ByteArray} {maxL : Nat} {ret : Option FieldType} {S : Type} {post : Int32 → S → Prop} {w1 : S → va_W}
    (hy : plainName y.cls = true) (hw : wds = Cond.code y cc maxL ret :: wds') (hm : (lg_sl av).length ≤ maxL)
    (body : ∀ (p : Program) (e : Env) (s : State) (m : MethodId) (args : Array Value) (below : List Frame) (meth : Method) (c : Code) (A : Nat → Prop) (R : Room) (Q : State → Prop) (ls : Array Slot), F ≤ R.frames → L ≤ R.locals → Q = MQ below (va_Qi post (fun u => cPost G A (w1 u)) A) args s 0 0 A →
      Cx p s m args meth c cc maxL ret wds y.cls G → va_P G.1 vwCl ws s.heap → va_D A ws → va_S A s.heap s.heap [] → (∀ q : Nat, s.heap.size ≤ q → A q) → SS G A s s.heap → lv_has ls maxL (lv_args 0 av) →
      W p l e R s m args below meth c s.heap [] 0 0 Q (F0 m 0 ls [])) :
    MetI l y wds F L G av ws sz post w1 := by
  refine Met.ofW (cc := cc) (maxL := maxL) (ret := ret) hy hw ?_
  intro p e s m args below meth c s₁ B hml hv
  obtain ⟨rfl, hsz, hP, hKK, hD0, hSS⟩ := hv
  subst hsz
  have hts := atoms_spec (ws := wds) B.pre
  have hl := lv_entry av (n := maxL) hm
  rw [lg_entry_eq]
  exact body p e s m _ below meth c (va_A ws s.heap.size) _ _ _ (Nat.le_refl F) (Nat.le_refl L) rfl ⟨B.exec, B.bytes, B.returns, hml, findClass_of_methodNamed B.named, hts, B.notSynchronized, hKK⟩ hP hD0.self va_S.rf (fun q h => Or.inr h) hSS hl
theorem x_startL {l : Launch} {y : MethodName} {wds wds' : List Cond} {F L : Nat} {G : Gt} {av : List Value} {ws : va_W} {sz : Nat} {cc : ByteArray} {maxL : Nat} {ret : Option FieldType} {S : Type} {post : Int64 → S → Prop} {w1 : S → va_W}
    (hy : plainName y.cls = true) (hw : wds = Cond.code y cc maxL ret :: wds') (hm : (lg_sl av).length ≤ maxL)
    (body : ∀ (p : Program) (e : Env) (s : State) (m : MethodId) (args : Array Value) (below : List Frame) (meth : Method) (c : Code) (A : Nat → Prop) (R : Room) (Q : State → Prop) (ls : Array Slot), F ≤ R.frames → L ≤ R.locals → Q = MQ below (va_Ql post (fun u => cPost G A (w1 u)) A) args s 0 0 A →
      Cx p s m args meth c cc maxL ret wds y.cls G → va_P G.1 vwCl ws s.heap → va_D A ws → va_S A s.heap s.heap [] → (∀ q : Nat, s.heap.size ≤ q → A q) → SS G A s s.heap → lv_has ls maxL (lv_args 0 av) →
      W p l e R s m args below meth c s.heap [] 0 0 Q (F0 m 0 ls [])) :
    MetL l y wds F L G av ws sz post w1 := by
  refine Met.ofW (cc := cc) (maxL := maxL) (ret := ret) hy hw ?_
  intro p e s m args below meth c s₁ B hml hv
  obtain ⟨rfl, hsz, hP, hKK, hD0, hSS⟩ := hv
  subst hsz
  have hts := atoms_spec (ws := wds) B.pre
  have hl := lv_entry av (n := maxL) hm
  rw [lg_entry_eq]
  exact body p e s m _ below meth c (va_A ws s.heap.size) _ _ _ (Nat.le_refl F) (Nat.le_refl L) rfl ⟨B.exec, B.bytes, B.returns, hml, findClass_of_methodNamed B.named, hts, B.notSynchronized, hKK⟩ hP hD0.self va_S.rf (fun q h => Or.inr h) hSS hl
theorem x_startV {l : Launch} {y : MethodName} {wds wds' : List Cond} {F L : Nat} {G : Gt} {av : List Value} {ws : va_W} {sz : Nat} {cc : ByteArray} {maxL : Nat} {ret : Option FieldType} {S : Type} {post : S → Prop} {w1 : S → va_W}
    (hy : plainName y.cls = true) (hw : wds = Cond.code y cc maxL ret :: wds') (hm : (lg_sl av).length ≤ maxL)
    (body : ∀ (p : Program) (e : Env) (s : State) (m : MethodId) (args : Array Value) (below : List Frame) (meth : Method) (c : Code) (A : Nat → Prop) (R : Room) (Q : State → Prop) (ls : Array Slot), F ≤ R.frames → L ≤ R.locals → Q = MQ below (va_Qv post (fun u => cPost G A (w1 u)) A) args s 0 0 A →
      Cx p s m args meth c cc maxL ret wds y.cls G → va_P G.1 vwCl ws s.heap → va_D A ws → va_S A s.heap s.heap [] → (∀ q : Nat, s.heap.size ≤ q → A q) → SS G A s s.heap → lv_has ls maxL (lv_args 0 av) →
      W p l e R s m args below meth c s.heap [] 0 0 Q (F0 m 0 ls [])) :
    MetV l y wds F L G av ws sz post w1 := by
  refine Met.ofW (cc := cc) (maxL := maxL) (ret := ret) hy hw ?_
  intro p e s m args below meth c s₁ B hml hv
  obtain ⟨rfl, hsz, hP, hKK, hD0, hSS⟩ := hv
  subst hsz
  have hts := atoms_spec (ws := wds) B.pre
  have hl := lv_entry av (n := maxL) hm
  rw [lg_entry_eq]
  exact body p e s m _ below meth c (va_A ws s.heap.size) _ _ _ (Nat.le_refl F) (Nat.le_refl L) rfl ⟨B.exec, B.bytes, B.returns, hml, findClass_of_methodNamed B.named, hts, B.notSynchronized, hKK⟩ hP hD0.self va_S.rf (fun q h => Or.inr h) hSS hl
section XR
variable {p : Program} {l : Launch} {e : Env} {R : Room} {s : State} {m : MethodId} {args : Array Value} {below : List Frame} {meth : Method} {c : Code} {H : Heap} {locs : List Loc} {cc : ByteArray} {pc : Nat} {ls : Array Slot} {A : Nat → Prop} {G : Gt}
theorem x_iret {S : Type} {post : Int32 → S → Prop} {w1 : S → va_W} {v : Int32} {Q : State → Prop} (u : S) (hQ : Q = MQ below (va_Qi post (fun u => cPost G A (w1 u)) A) args s 0 0 A) (hx : p.tables.exec = Jvm.exec) (hb : c.code = cc) (hr : meth.sig.returnType = some .int) (hlocks : meth.locks = false) (hS : va_S A s.heap H locs) (hdg : decode cc pc = .ok (.ireturn, 1)) (hp : post v u) (hP : va_P G.1 vwCl (w1 u) H) (hD : va_D A (w1 u)) :
    W p l e R s m args below meth c H locs 0 0 Q (F0 m pc ls [.int v]) := by
  subst hQ
  exact W.iret hx hb hr (fun t ht _ => ⟨⟨v, u, rfl, hp, by rw [ht]; exact hP, hD⟩, hS.F ht⟩) hS.2.2 hdg hlocks
theorem x_zret {S : Type} {post : Int32 → S → Prop} {w1 : S → va_W} {v : Int32} {ty : FieldType} {Q : State → Prop} (u : S) (hQ : Q = MQ below (va_Qi post (fun u => cPost G A (w1 u)) A) args s 0 0 A) (hx : p.tables.exec = Jvm.exec) (hb : c.code = cc) (hr : meth.sig.returnType = some ty) (hlocks : meth.locks = false) (hS : va_S A s.heap H locs) (hdg : decode cc pc = .ok (.ireturn, 1)) (hn : narrow ty (.int v) = .int v) (hp : post v u) (hP : va_P G.1 vwCl (w1 u) H) (hD : va_D A (w1 u)) :
    W p l e R s m args below meth c H locs 0 0 Q (F0 m pc ls [.int v]) := by
  subst hQ
  exact W.zret hx hb hr hn (fun t ht _ => ⟨⟨v, u, rfl, hp, by rw [ht]; exact hP, hD⟩, hS.F ht⟩) hS.2.2 hdg hlocks
theorem x_lret {S : Type} {post : Int64 → S → Prop} {w1 : S → va_W} {v : Int64} {Q : State → Prop} (u : S) (hQ : Q = MQ below (va_Ql post (fun u => cPost G A (w1 u)) A) args s 0 0 A) (hx : p.tables.exec = Jvm.exec) (hb : c.code = cc) (hr : meth.sig.returnType = some .long) (hlocks : meth.locks = false) (hS : va_S A s.heap H locs) (hdg : decode cc pc = .ok (.lreturn, 1)) (hp : post v u) (hP : va_P G.1 vwCl (w1 u) H) (hD : va_D A (w1 u)) :
    W p l e R s m args below meth c H locs 0 0 Q (F0 m pc ls [.long v]) := by
  subst hQ
  exact W.lret hx hb hr (fun t ht _ => ⟨⟨v, u, rfl, hp, by rw [ht]; exact hP, hD⟩, hS.F ht⟩) hS.2.2 hdg hlocks
theorem x_vret {S : Type} {post : S → Prop} {w1 : S → va_W} {Q : State → Prop} (u : S) (hQ : Q = MQ below (va_Qv post (fun u => cPost G A (w1 u)) A) args s 0 0 A) (hx : p.tables.exec = Jvm.exec) (hb : c.code = cc) (hr : meth.sig.returnType = none) (hlocks : meth.locks = false) (hS : va_S A s.heap H locs) (hdg : decode cc pc = .ok (.return_, 1)) (hp : post u) (hP : va_P G.1 vwCl (w1 u) H) (hD : va_D A (w1 u)) :
    W p l e R s m args below meth c H locs 0 0 Q (F0 m pc ls []) := by
  subst hQ
  exact W.vret hx hb hr (fun t ht _ => ⟨⟨u, rfl, hp, by rw [ht]; exact hP, hD⟩, hS.F ht⟩) hS.2.2 hdg hlocks
theorem x_blind {av : List Value} {ws : va_W} {sz : Nat} : FrameBlind (va_Pc av (cPre G ws sz)) := fun a U g mk q => by
  obtain ⟨q0, q1, qP, qK, qD, qS⟩ := q
  exact ⟨q0, q1, qP, KK.same (s := U) (U := U.calling g mk a) rfl qK, qD, SS.same (s := U) (U := U.calling g mk a) rfl qS⟩
/-- the callee's start, from the caller's world -/
theorem x_pre {w wc : va_W} {av : List Value} (hKK : KK G s) (hSS : SS G A s s.heap) (hS : va_S A s.heap H locs) (hA : ∀ q : Nat, s.heap.size ≤ q → A q) (hP : va_P G.1 vwCl w H) (hD : va_D A w) (isC : List Nat) (hn : va_nd isC = true) (hC : isC.map (fun i => w[i]?) = wc.map some) : ∀ U : State, U.heap = H → s.WarmedH U.vm → va_Pc av (cPre G wc H.size) av.toArray U := by
  intro U hU hW
  have hPc : va_P G.1 vwCl wc H := by
    intro k q hk
    have h1 : (isC.map (fun i => w[i]?))[k]? = some (some q) := by rw [hC, List.getElem?_map, hk]; rfl
    rw [List.getElem?_map] at h1
    obtain ⟨i, h2, h3⟩ := Option.map_eq_some_iff.mp h1
    exact hP i q h3
  exact ⟨rfl, by rw [hU], by rw [hU]; exact hPc, hKK.warm hW, (hD.sub isC hn hC).weaken (fun _ _ _ _ => trivial), by rw [hU]; exact SS.on hW hSS hS.2.1 (va_free (wc := wc) hD hS hA isC hC)⟩
variable {nL n index maxL F L : Nat} {Ts wds wds' : List Cond} {own : String} {y : MethodName} {bytes : ByteArray} {ret : Option FieldType} {Qc : Array Value → State → Outcome → State → Prop} {free : Addr → Prop} {b : Addr} {As rest st0 : List Value} {w wc : va_W} {H0 : Heap}
theorem x_runV {C : String} {ci : Nat} {q : vw_C} {fs : List Value} (S : CallFix p m c cc nL s args Ts own) (hM : Met l y wds (cRm F L) (va_Pc (.ref b :: As) (cPre G wc H.size)) Qc 0 0 free) (hT : GoodIn Ts (wsV own index C y wds)) (hw : wds = Cond.code y bytes maxL ret :: wds')
    (hd : y.cls = C ∧ y.cls ≠ "java/lang/invoke/MethodHandle" ∧ y.cls ≠ "java/lang/invoke/VarHandle" ∧ (parseMethodDescriptor y.desc).map (fun d => d.parameters.length) = some n) (hR : F + 1 ≤ R.frames ∧ 8 + (maxL + 11) + L ≤ R.locals)
    (hKK : KK G s) (hSS : SS G A s s.heap) (hS : va_S A s.heap H locs) (hA : ∀ q : Nat, s.heap.size ≤ q → A q) (hP : va_P G.1 vwCl w H) (hD : va_D A w) (isC : List Nat) (hnd : va_nd isC = true) (hC : isC.map (fun i => w[i]?) = wc.map some) (hc : vwCl[ci]? = some q) (hq : q.1 = C) (q0 : Nat) (he : w[q0]? = some (b, .inr (ci, fs)))
    (hn : As.length = n) (hsize : ls.size = nL) (hst : st0 = As.reverse ++ .ref b :: rest) (hW : (rest.map fun v => v.category).sum ≤ 8) (hdg : decode cc pc = .ok (.invokevirtual index, 3)) :
    va_Run p l e R s m args below meth c H locs 0 0 0 0 (F0 m pc ls st0) rest (Qc (Value.ref b :: As).toArray) free :=
  va_runV S hM (cwV n S.2.2.2.2 hT hw rfl rfl hd hR) ⟨x_blind, by subst hq; exact va_recv hKK.1 hP hc he, x_pre hKK hSS hS hA hP hD isC hnd hC⟩ rfl hn hsize hst (lv_room hW) hdg ⟨Nat.zero_le _, Nat.zero_le _⟩
theorem x_runS (S : CallFix p m c cc nL s args Ts own) (hM : Met l y wds (cRm F L) (va_Pc As (cPre G wc H.size)) Qc 0 0 free) (hT : GoodIn Ts (va_wsS own index y wds)) (hw : wds = Cond.code y bytes maxL ret :: wds')
    (hd : y.cls ≠ "java/lang/invoke/MethodHandle" ∧ y.cls ≠ "java/lang/invoke/VarHandle" ∧ (parseMethodDescriptor y.desc).map (fun d => d.parameters.length) = some n) (hR : F + 1 ≤ R.frames ∧ 8 + (maxL + 11) + L ≤ R.locals)
    (hKK : KK G s) (hSS : SS G A s s.heap) (hS : va_S A s.heap H locs) (hA : ∀ q : Nat, s.heap.size ≤ q → A q) (hP : va_P G.1 vwCl w H) (hD : va_D A w) (isC : List Nat) (hnd : va_nd isC = true) (hC : isC.map (fun i => w[i]?) = wc.map some)
    (hn : As.length = n) (hsize : ls.size = nL) (hst : st0 = As.reverse ++ rest) (hW : (rest.map fun v => v.category).sum ≤ 8) (hdg : decode cc pc = .ok (.invokestatic index, 3)) :
    va_Run p l e R s m args below meth c H locs 0 0 0 0 (F0 m pc ls st0) rest (Qc As.toArray) free :=
  va_runS S hM (va_cwS n S.2.2.2.2 hT hw rfl rfl hd hR) ⟨x_blind, x_pre hKK hSS hS hA hP hD isC hnd hC⟩ rfl hn hsize hst (lv_room hW) hdg ⟨Nat.zero_le _, Nat.zero_le _⟩
theorem x_runSN (S : CallFix p m c cc nL s args Ts own) (hM : Met l y wds (cRm F L) (va_Pc As (cPre G wc H.size)) Qc 0 0 free) (hT : GoodIn Ts wds) (hw : wds = Cond.code y bytes maxL ret :: wds')
    (hini : (Cond.initialized y.cls).before args s = true) (hstat : (Cond.static y).before args s = true) (hq : (own, index, y) ∈ nwq)
    (hd : y.cls ≠ "java/lang/invoke/MethodHandle" ∧ y.cls ≠ "java/lang/invoke/VarHandle" ∧ (parseMethodDescriptor y.desc).map (fun d => d.parameters.length) = some n) (hR : F + 1 ≤ R.frames ∧ 8 + (maxL + 11) + L ≤ R.locals)
    (hKK : KK G s) (hSS : SS G A s s.heap) (hS : va_S A s.heap H locs) (hA : ∀ q : Nat, s.heap.size ≤ q → A q) (hP : va_P G.1 vwCl w H) (hD : va_D A w) (isC : List Nat) (hnd : va_nd isC = true) (hC : isC.map (fun i => w[i]?) = wc.map some)
    (hn : As.length = n) (hsize : ls.size = nL) (hst : st0 = As.reverse ++ rest) (hW : (rest.map fun v => v.category).sum ≤ 8) (hdg : decode cc pc = .ok (.invokestatic index, 3)) :
    va_Run p l e R s m args below meth c H locs 0 0 0 0 (F0 m pc ls st0) rest (Qc As.toArray) free :=
  va_runSN S hM ⟨va_cnB n S.2.2.2.2 hT hw rfl rfl (hKK.2 _ hq) hini hd hR, hstat, trivial⟩ ⟨x_blind, x_pre hKK hSS hS hA hP hD isC hnd hC⟩ rfl hn hsize hst (lv_room hW) hdg ⟨Nat.zero_le _, Nat.zero_le _⟩
theorem x_keep {w wc : va_W} {H1 : Heap} (hP : va_P G.1 vwCl w H) (hD : va_D A w) (isC : List Nat) (hC : isC.map (fun i => w[i]?) = wc.map some) (hk : ∀ q : Nat, q < H.size → ¬ va_A wc H.size q → H1[q]? = H[q]?) (hP1 : va_P G.1 vwCl wc H1) : va_P G.1 vwCl w H1 := by
  intro k q hq
  by_cases hm : va_A wc H.size q.1
  · rcases hm with ⟨j, e, hj⟩ | hj
    · have h1 : (isC.map (fun i => w[i]?))[j]? = some (some (q.1, e)) := by rw [hC, List.getElem?_map, hj]; rfl
      rw [List.getElem?_map] at h1
      obtain ⟨i, -, h3⟩ := Option.map_eq_some_iff.mp h1
      have e1 := hD.1 k i q (q.1, e) hq h3 rfl
      subst e1
      rw [hq] at h3
      have e2 : q = (q.1, e) := Option.some.inj h3
      rw [e2]
      exact hP1 j _ hj
    · have := (hP k q hq).lt
      omega
  · exact (hP k q hq).kept (hk q.1 (hP k q hq).lt hm)
/-- a call that leaves the cells as they are -/
theorem x_calliR {S : Type} {Q : State → Prop} {post : Int32 → S → Prop} {a : Array Value} (hr : va_Run p l e R s m args below meth c H locs 0 0 0 0 (F0 m pc ls st0) rest (va_Qi post (fun _ => cPost G (va_A wc H.size) wc) (va_A wc H.size) a) (va_A wc H.size)) (hP : va_P G.1 vwCl w H) (hD : va_D A w) (hS : va_S A H0 H locs) (hA : ∀ q : Nat, H0.size ≤ q → A q) (isC : List Nat) (hC : isC.map (fun i => w[i]?) = wc.map some)
    (kk : ∀ (r : Int32) (u : S) (H1 : Heap) (locs1 : List Loc), post r u → va_P G.1 vwCl w H1 → va_S A H0 H1 locs1 → W p l e R s m args below meth c H1 locs1 0 0 Q (F0 m (pc + 3) ls (.int r :: rest))) : W p l e R s m args below meth c H locs 0 0 Q (F0 m pc ls st0) := by
  have hFc := va_free (wc := wc) hD hS hA isC hC
  refine va_calli hr hS (fun q _ h => hFc q h) hFc (fun r u t H1 locs1 ht _ hp hB _ hk hS1 => ?_)
  obtain ⟨hP1, -⟩ := hB
  rw [ht] at hP1
  exact kk r u H1 locs1 hp (x_keep hP hD isC hC hk hP1) hS1
theorem x_calllR {S : Type} {Q : State → Prop} {post : Int64 → S → Prop} {a : Array Value} (hr : va_Run p l e R s m args below meth c H locs 0 0 0 0 (F0 m pc ls st0) rest (va_Ql post (fun _ => cPost G (va_A wc H.size) wc) (va_A wc H.size) a) (va_A wc H.size)) (hP : va_P G.1 vwCl w H) (hD : va_D A w) (hS : va_S A H0 H locs) (hA : ∀ q : Nat, H0.size ≤ q → A q) (isC : List Nat) (hC : isC.map (fun i => w[i]?) = wc.map some)
    (kk : ∀ (r : Int64) (u : S) (H1 : Heap) (locs1 : List Loc), post r u → va_P G.1 vwCl w H1 → va_S A H0 H1 locs1 → W p l e R s m args below meth c H1 locs1 0 0 Q (F0 m (pc + 3) ls (.long r :: rest))) : W p l e R s m args below meth c H locs 0 0 Q (F0 m pc ls st0) := by
  have hFc := va_free (wc := wc) hD hS hA isC hC
  refine va_calll hr hS (fun q _ h => hFc q h) hFc (fun r u t H1 locs1 ht _ hp hB _ hk hS1 => ?_)
  obtain ⟨hP1, -⟩ := hB
  rw [ht] at hP1
  exact kk r u H1 locs1 hp (x_keep hP hD isC hC hk hP1) hS1
/-- a call that changes its cells: the rest's places isR, and the places pm of the world as it is wanted behind it -/
theorem x_put {w wc wr w1 w' : va_W} {H1 : Heap} (hP : va_P G.1 vwCl w H) (hD : va_D A w) (hS : va_S A H0 H locs) (hA : ∀ q : Nat, H0.size ≤ q → A q) (isC isR pm : List Nat) (hC : isC.map (fun i => w[i]?) = wc.map some) (hR : isR.map (fun i => w[i]?) = wr.map some) (hn : va_nd isR = true) (hdis : ∀ i ∈ isR, i ∉ isC) (hpn : va_nd pm = true) (hpm : pm.map (fun i => (wr ++ w1)[i]?) = w'.map some)
    (hk : ∀ q : Nat, q < H.size → ¬ va_A wc H.size q → H1[q]? = H[q]?) (hP1 : va_P G.1 vwCl w1 H1) (hD1 : va_D (va_A wc H.size) w1) : va_P G.1 vwCl w' H1 ∧ va_D A w' := by
  have hFc := va_free (wc := wc) hD hS hA isC hC
  obtain ⟨hP2, hD2⟩ := va_join (wr := wr) (w1 := w1) hP hD isC isR hC hR hn hdis hk hFc hP1 hD1
  refine ⟨?_, hD2.sub pm hpn hpm⟩
  intro k q hk
  have h1 : (pm.map (fun i => (wr ++ w1)[i]?))[k]? = some (some q) := by rw [hpm, List.getElem?_map, hk]; rfl
  rw [List.getElem?_map] at h1
  obtain ⟨i, -, h3⟩ := Option.map_eq_some_iff.mp h1
  exact hP2 i q h3
theorem x_calli {S : Type} {Q : State → Prop} {post : Int32 → S → Prop} {a : Array Value} {wr : va_W} {w1 w' : S → va_W} (hr : va_Run p l e R s m args below meth c H locs 0 0 0 0 (F0 m pc ls st0) rest (va_Qi post (fun u => cPost G (va_A wc H.size) (w1 u)) (va_A wc H.size) a) (va_A wc H.size)) (hP : va_P G.1 vwCl w H) (hD : va_D A w) (hS : va_S A H0 H locs) (hA : ∀ q : Nat, H0.size ≤ q → A q) (isC isR pm : List Nat) (hC : isC.map (fun i => w[i]?) = wc.map some) (hR : isR.map (fun i => w[i]?) = wr.map some) (hn : va_nd isR = true) (hdis : ∀ i ∈ isR, i ∉ isC) (hpn : va_nd pm = true) (hpm : ∀ u, pm.map (fun i => (wr ++ w1 u)[i]?) = (w' u).map some)
    (kk : ∀ (r : Int32) (u : S) (H1 : Heap) (locs1 : List Loc), post r u → va_P G.1 vwCl (w' u) H1 → va_D A (w' u) → va_S A H0 H1 locs1 → W p l e R s m args below meth c H1 locs1 0 0 Q (F0 m (pc + 3) ls (.int r :: rest))) : W p l e R s m args below meth c H locs 0 0 Q (F0 m pc ls st0) := by
  have hFc := va_free (wc := wc) hD hS hA isC hC
  refine va_calli hr hS (fun q _ h => hFc q h) hFc (fun r u t H1 locs1 ht _ hp hB _ hk hS1 => ?_)
  obtain ⟨hP1, hD1⟩ := hB
  rw [ht] at hP1
  obtain ⟨hP2, hD2⟩ := x_put (wr := wr) hP hD hS hA isC isR pm hC hR hn hdis hpn (hpm u) hk hP1 hD1
  exact kk r u H1 locs1 hp hP2 hD2 hS1
theorem x_calll {S : Type} {Q : State → Prop} {post : Int64 → S → Prop} {a : Array Value} {wr : va_W} {w1 w' : S → va_W} (hr : va_Run p l e R s m args below meth c H locs 0 0 0 0 (F0 m pc ls st0) rest (va_Ql post (fun u => cPost G (va_A wc H.size) (w1 u)) (va_A wc H.size) a) (va_A wc H.size)) (hP : va_P G.1 vwCl w H) (hD : va_D A w) (hS : va_S A H0 H locs) (hA : ∀ q : Nat, H0.size ≤ q → A q) (isC isR pm : List Nat) (hC : isC.map (fun i => w[i]?) = wc.map some) (hR : isR.map (fun i => w[i]?) = wr.map some) (hn : va_nd isR = true) (hdis : ∀ i ∈ isR, i ∉ isC) (hpn : va_nd pm = true) (hpm : ∀ u, pm.map (fun i => (wr ++ w1 u)[i]?) = (w' u).map some)
    (kk : ∀ (r : Int64) (u : S) (H1 : Heap) (locs1 : List Loc), post r u → va_P G.1 vwCl (w' u) H1 → va_D A (w' u) → va_S A H0 H1 locs1 → W p l e R s m args below meth c H1 locs1 0 0 Q (F0 m (pc + 3) ls (.long r :: rest))) : W p l e R s m args below meth c H locs 0 0 Q (F0 m pc ls st0) := by
  have hFc := va_free (wc := wc) hD hS hA isC hC
  refine va_calll hr hS (fun q _ h => hFc q h) hFc (fun r u t H1 locs1 ht _ hp hB _ hk hS1 => ?_)
  obtain ⟨hP1, hD1⟩ := hB
  rw [ht] at hP1
  obtain ⟨hP2, hD2⟩ := x_put (wr := wr) hP hD hS hA isC isR pm hC hR hn hdis hpn (hpm u) hk hP1 hD1
  exact kk r u H1 locs1 hp hP2 hD2 hS1
theorem x_callv {S : Type} {Q : State → Prop} {post : S → Prop} {a : Array Value} {wr : va_W} {w1 w' : S → va_W} (hr : va_Run p l e R s m args below meth c H locs 0 0 0 0 (F0 m pc ls st0) rest (va_Qv post (fun u => cPost G (va_A wc H.size) (w1 u)) (va_A wc H.size) a) (va_A wc H.size)) (hP : va_P G.1 vwCl w H) (hD : va_D A w) (hS : va_S A H0 H locs) (hA : ∀ q : Nat, H0.size ≤ q → A q) (isC isR pm : List Nat) (hC : isC.map (fun i => w[i]?) = wc.map some) (hR : isR.map (fun i => w[i]?) = wr.map some) (hn : va_nd isR = true) (hdis : ∀ i ∈ isR, i ∉ isC) (hpn : va_nd pm = true) (hpm : ∀ u, pm.map (fun i => (wr ++ w1 u)[i]?) = (w' u).map some)
    (kk : ∀ (u : S) (H1 : Heap) (locs1 : List Loc), post u → va_P G.1 vwCl (w' u) H1 → va_D A (w' u) → va_S A H0 H1 locs1 → W p l e R s m args below meth c H1 locs1 0 0 Q (F0 m (pc + 3) ls rest)) : W p l e R s m args below meth c H locs 0 0 Q (F0 m pc ls st0) := by
  have hFc := va_free (wc := wc) hD hS hA isC hC
  refine va_callv hr hS (fun q _ h => hFc q h) hFc (fun u t H1 locs1 ht _ hp hB _ hk hS1 => ?_)
  obtain ⟨hP1, hD1⟩ := hB
  rw [ht] at hP1
  obtain ⟨hP2, hD2⟩ := x_put (wr := wr) hP hD hS hA isC isR pm hC hR hn hdis hpn (hpm u) hk hP1 hD1
  exact kk u H1 locs1 hp hP2 hD2 hS1
end XR
theorem tv_eq {P : Prop} [Decidable P] : (if P then (1 : Int32) else 0) = 0 ↔ ¬ P := by by_cases h : P <;> simp [h]
theorem tv_eqn {P : Prop} [Decidable P] : ¬ (if P then (1 : Int32) else 0) = 0 ↔ P := by by_cases h : P <;> simp [h]
theorem ts_out {x : Int32} (n : Nat) (hn : n < 100) (h : ∀ k, k ≤ n → ¬ x = nI k) : x.toInt < 0 ∨ (n : Int) < x.toInt := by
  by_cases q : x.toInt < 0
  · exact Or.inl q
  · refine Or.inr (Int.lt_of_not_ge fun h2 => ?_)
    refine h x.toInt.toNat (by omega) ?_
    rw [← Int32.toInt_inj, nI_toInt (by omega)]
    omega
def ts_ne (x : Int32) : Nat → Prop
  | 0 => ¬ x = nI 0
  | n + 1 => ts_ne x n ∧ ¬ x = nI (n + 1)
theorem ts_ne_all {x : Int32} : ∀ n, ts_ne x n → ∀ k, k ≤ n → ¬ x = nI k
  | 0, h, k, hk => by
    have e : k = 0 := by omega
    subst e
    exact h
  | n + 1, h, k, hk => by
    rcases Nat.lt_or_ge n k with q | q
    · have e : k = n + 1 := by omega
      subst e
      exact h.2
    · exact ts_ne_all n h.1 k q
abbrev kS (G : Gt) (i : Nat) : Nat := G.2.2.2.2.2.2.1 i
abbrev vS (G : Gt) (i : Nat) : Nat := G.2.2.2.2.2.2.2 i
section XS
variable {p : Program} {l : Launch} {e : Env} {R : Room} {s : State} {m : MethodId} {args : Array Value} {below : List Frame} {meth : Method} {c : Code} {H : Heap} {locs : List Loc} {cc : ByteArray} {pc : Nat} {ls : Array Slot} {A : Nat → Prop} {G : Gt}
variable {nL n index maxL F L : Nat} {Ts wds wds' : List Cond} {own : String} {y : MethodName} {bytes : ByteArray} {ret : Option FieldType} {Qc : Array Value → State → Outcome → State → Prop} {free : Addr → Prop} {As rest st0 : List Value} {w wc : va_W} {H0 : Heap}
theorem x_runVK {i : Nat} (S : CallFix p m c cc nL s args Ts own) (hM : Met l y wds (cRm F L) (va_Pc (.ref (kS G i) :: As) (cPre G wc H.size)) Qc 0 0 free) (hT : GoodIn Ts (wsV own index "java/lang/String" y wds)) (hw : wds = Cond.code y bytes maxL ret :: wds')
    (hd : y.cls = "java/lang/String" ∧ y.cls ≠ "java/lang/invoke/MethodHandle" ∧ y.cls ≠ "java/lang/invoke/VarHandle" ∧ (parseMethodDescriptor y.desc).map (fun d => d.parameters.length) = some n) (hR : F + 1 ≤ R.frames ∧ 8 + (maxL + 11) + L ≤ R.locals)
    (hKK : KK G s) (hSS : SS G A s s.heap) (hS : va_S A s.heap H locs) (hA : ∀ q : Nat, s.heap.size ≤ q → A q) (hP : va_P G.1 vwCl w H) (hD : va_D A w) (hi : i < 9) (isC : List Nat) (hnd : va_nd isC = true) (hC : isC.map (fun i => w[i]?) = wc.map some)
    (hn : As.length = n) (hsize : ls.size = nL) (hst : st0 = As.reverse ++ .ref (kS G i) :: rest) (hW : (rest.map fun v => v.category).sum ≤ 8) (hdg : decode cc pc = .ok (.invokevirtual index, 3)) :
    va_Run p l e R s m args below meth c H locs 0 0 0 0 (F0 m pc ls st0) rest (Qc (Value.ref (kS G i) :: As).toArray) free :=
  va_runV S hM (cwV n S.2.2.2.2 hT hw rfl rfl hd hR) ⟨x_blind, vk_recv hSS.1 hi hS, x_pre hKK hSS hS hA hP hD isC hnd hC⟩ rfl hn hsize hst (lv_room hW) hdg ⟨Nat.zero_le _, Nat.zero_le _⟩
theorem x_callvR {S : Type} {Q : State → Prop} {post : S → Prop} {a : Array Value} (hr : va_Run p l e R s m args below meth c H locs 0 0 0 0 (F0 m pc ls st0) rest (va_Qv post (fun _ => cPost G (va_A wc H.size) wc) (va_A wc H.size) a) (va_A wc H.size)) (hP : va_P G.1 vwCl w H) (hD : va_D A w) (hS : va_S A H0 H locs) (hA : ∀ q : Nat, H0.size ≤ q → A q) (isC : List Nat) (hC : isC.map (fun i => w[i]?) = wc.map some)
    (kk : ∀ (u : S) (H1 : Heap) (locs1 : List Loc), post u → va_P G.1 vwCl w H1 → va_S A H0 H1 locs1 → W p l e R s m args below meth c H1 locs1 0 0 Q (F0 m (pc + 3) ls rest)) : W p l e R s m args below meth c H locs 0 0 Q (F0 m pc ls st0) := by
  have hFc := va_free (wc := wc) hD hS hA isC hC
  refine va_callv hr hS (fun q _ h => hFc q h) hFc (fun u t H1 locs1 ht _ hp hB _ hk hS1 => ?_)
  obtain ⟨hP1, -⟩ := hB
  rw [ht] at hP1
  exact kk u H1 locs1 hp (x_keep hP hD isC hC hk hP1) hS1
end XS
