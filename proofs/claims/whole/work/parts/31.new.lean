/-! making objects -/
def cPreN (G : Gt) (ws : va_W) (sz : Nat) (U : State) : Prop := cPre G ws sz U ∧ va_AO "WarmStones$Night" U
abbrev cRn (F K N L : Nat) : Room := { frames := F, cells := K, slots := N, locals := L }
abbrev MetN (l : Launch) (y : MethodName) (wds : List Cond) (F K N L : Nat) (G : Gt) (args : List Value) (ws : va_W) (sz : Nat) {S : Type} (post : S → Prop) (w1 : S → va_W) : Prop :=
  Met l y wds (cRn F K N L) (va_Pc args (cPreN G ws sz)) (va_Qv post (fun u => cPost G (va_A ws sz) (w1 u)) (va_A ws sz)) K N (va_A ws sz)
theorem x_startN {l : Launch} {y : MethodName} {wds wds' : List Cond} {F K N L : Nat} {G : Gt} {av : List Value} {ws : va_W} {sz : Nat} {cc : ByteArray} {maxL : Nat} {ret : Option FieldType} {S : Type} {post : S → Prop} {w1 : S → va_W}
    (hy : plainName y.cls = true) (hyn : y.name = "<init>") (hw : wds = Cond.code y cc maxL ret :: wds') (hm : (lg_sl av).length ≤ maxL)
    (body : ∀ (p : Program) (e : Env) (s : State) (m : MethodId) (args : Array Value) (below : List Frame) (meth : Method) (c : Code) (A : Nat → Prop) (R : Room) (Q : State → Prop) (ls : Array Slot), F ≤ R.frames → L ≤ R.locals → K ≤ R.cells → N ≤ R.slots → Q = MQ below (va_Qv post (fun u => cPost G A (w1 u)) A) args s K N A →
      Cx p s m args meth c cc maxL ret wds y.cls G → va_P G.1 vwCl ws s.heap → va_D A ws → va_S A s.heap s.heap [] → (∀ q : Nat, s.heap.size ≤ q → A q) → SS G A s s.heap → va_AO "WarmStones$Night" s → meth.name = "<init>" → lv_has ls maxL (lv_args 0 av) →
      W p l e R s m args below meth c s.heap [] 0 0 Q (F0 m 0 ls [])) :
    MetN l y wds F K N L G av ws sz post w1 := by
  refine Met.ofW (cc := cc) (maxL := maxL) (ret := ret) hy hw ?_
  intro p e s m args below meth c s₁ B hml hv
  obtain ⟨rfl, ⟨hsz, hP, hKK, hD0, hSS⟩, hAO⟩ := hv
  subst hsz
  have hts := atoms_spec (ws := wds) B.pre
  have hl := lv_entry av (n := maxL) hm
  rw [lg_entry_eq]
  exact body p e s m _ below meth c (va_A ws s.heap.size) _ _ _ (Nat.le_refl F) (Nat.le_refl L) (Nat.le_refl K) (Nat.le_refl N) rfl ⟨B.exec, B.bytes, B.returns, hml, findClass_of_methodNamed B.named, hts, B.notSynchronized, hKK⟩ hP hD0.self va_S.rf (fun q h => Or.inr h) hSS hAO ((name_of_methodNamed B.named B.method).1.trans hyn) hl
section XN
variable {p : Program} {l : Launch} {e : Env} {R : Room} {s : State} {m : MethodId} {args : Array Value} {below : List Frame} {meth : Method} {c : Code} {H : Heap} {locs : List Loc} {cc : ByteArray} {pc : Nat} {ls : Array Slot} {A : Nat → Prop} {G : Gt} {k9 n9 : Nat}
theorem x_vretN {S : Type} {post : S → Prop} {w1 : S → va_W} {Q : State → Prop} {K N : Nat} (u : S) (hQ : Q = MQ below (va_Qv post (fun u => cPost G A (w1 u)) A) args s K N A) (hx : p.tables.exec = Jvm.exec) (hb : c.code = cc) (hr : meth.sig.returnType = none) (hlocks : meth.locks = false) (hS : va_S A s.heap H locs) (hdg : decode cc pc = .ok (.return_, 1)) (hp : post u) (hP : va_P G.1 vwCl (w1 u) H) (hD : va_D A (w1 u)) :
    W p l e R s m args below meth c H locs K N Q (F0 m pc ls []) := by
  subst hQ
  exact W.vret hx hb hr (fun t ht _ => ⟨⟨u, rfl, hp, by rw [ht]; exact hP, hD⟩, hS.F ht⟩) hS.2.2 hdg hlocks
theorem x_blindN {av : List Value} {ws : va_W} {sz : Nat} : FrameBlind (va_Pc av (cPreN G ws sz)) := fun a U g mk q => by
  obtain ⟨q0, ⟨q1, qP, qK, qD, qS⟩, qA⟩ := q
  exact ⟨q0, ⟨q1, qP, KK.same (s := U) (U := U.calling g mk a) rfl qK, qD, SS.same (s := U) (U := U.calling g mk a) rfl qS⟩, va_AO.moved (u := U) (U := U.calling g mk a) (Vm.Alike.refl U.vm) qA⟩
theorem x_preN {w wc : va_W} {av : List Value} (hKK : KK G s) (hAO : va_AO "WarmStones$Night" s) (hSS : SS G A s s.heap) (hS : va_S A s.heap H locs) (hA : ∀ q : Nat, s.heap.size ≤ q → A q) (hP : va_P G.1 vwCl w H) (hD : va_D A w) (isC : List Nat) (hn : va_nd isC = true) (hC : isC.map (fun i => w[i]?) = wc.map some) : ∀ U : State, U.heap = H → s.WarmedH U.vm → va_Pc av (cPreN G wc H.size) av.toArray U := fun U hU hW =>
  ⟨rfl, (x_pre (av := av) hKK hSS hS hA hP hD isC hn hC U hU hW).2, va_AO.moved hW.alike hAO⟩
theorem x_newa {Q : State → Prop} {w : va_W} {rest : List Value} {k : Nat} {cA0 : ClassId} {ty : FieldType} {atype : ArrayType} (hx : p.tables.exec = Jvm.exec) (hb : c.code = cc) (hKK : KK G s) (hg : (gT G)[k]? = some (cA0, ty)) (hne : ∀ C, ty ≠ .object C) (hP : va_P G.1 vwCl w H) (hD : va_D A w) (hS : va_S A s.heap H locs) (hA : ∀ q : Nat, s.heap.size ≤ q → A q) (harr : (Cond.arrayClass (newarray.typeOf atype)).before args s = true) (hty : newarray.typeOf atype = ty)
    {n : Int32} {N' : Nat} {a0 : vp_A} (ha : ∀ cA : ClassId, vp_cell cA a0 = arrV cA N' (fun _ => defaultValue ty)) (hn : ¬ n < 0) (hN : n.toNatClampNeg = N') (hbytes : N' * componentBytes ty ≤ 536870912) (hcells : k9 + 1 ≤ R.cells) (hslots : n9 + N' ≤ R.slots) (hdg : decode cc pc = .ok (.newarray atype, 2))
    (kk : ∀ (q : Nat) (H1 : Heap), va_P G.1 vwCl (w ++ [(q, .inl (cA0, a0))]) H1 → va_D A (w ++ [(q, .inl (cA0, a0))]) → va_S A s.heap H1 locs → W p l e R s m args below meth c H1 locs (k9 + 1) (n9 + N') Q (F0 m (pc + 2) ls (.ref q :: rest))) : W p l e R s m args below meth c H locs k9 n9 Q (F0 m pc ls (.int n :: rest)) := by
  refine va_newa hx hb harr hty hKK.1 hP hD hS hA ha hn hN hbytes hcells hslots hdg (fun q cA H1 hK2 hP2 hD2 hS2 => ?_)
  have e : cA = cA0 := by
    have h1 := (hKK.1.2 k _ hg).2
    have h2 := (hK2.2 5 (cA, ty) rfl).2
    cases ty with
    | object C => exact absurd rfl (hne C)
    | _ => exact Option.some.inj (h2.symm.trans h1)
  subst e
  exact kk q H1 hP2 hD2 hS2
theorem x_newq {Q : State → Prop} {w : va_W} {rest : List Value} {own : String} {index : Nat} (hx : p.tables.exec = Jvm.exec) (hb : c.code = cc) (hown : s.vm.findClass own = some m.cls) (hcl : (Cond.classLink own index "WarmStones$Night").before args s = true) (hAO : va_AO "WarmStones$Night" s) (hKK : KK G s) (hP : va_P G.1 vwCl w H) (hD : va_D A w) (hS : va_S A s.heap H locs) (hA : ∀ q : Nat, s.heap.size ≤ q → A q)
    {n : Int32} {N' : Nat} (hn : ¬ n < 0) (hN : n.toNatClampNeg = N') (hbytes : N' * 4 ≤ 536870912) (hcells : k9 + 1 ≤ R.cells) (hslots : n9 + N' ≤ R.slots) (hdg : decode cc pc = .ok (.anewarray index, 3))
    (kk : ∀ (q : Nat) (H1 : Heap), va_P G.1 vwCl (w ++ [aN G q N' (fun _ => none)]) H1 → va_D A (w ++ [aN G q N' (fun _ => none)]) → va_S A s.heap H1 locs → W p l e R s m args below meth c H1 locs (k9 + 1) (n9 + N') Q (F0 m (pc + 3) ls (.ref q :: rest))) : W p l e R s m args below meth c H locs k9 n9 Q (F0 m pc ls (.int n :: rest)) := by
  refine va_newq hx hb hown hcl hAO hKK.1 hP hD hS hA hn hN hbytes hcells hslots hdg (fun q cA H1 hK2 hP2 hD2 hS2 => ?_)
  have e : cA = G.2.2.2.2.2.1 := by
    obtain ⟨_, _, _, _, _, h1⟩ := (hKK.1.2 4 (G.2.2.2.2.2.1, .object "WarmStones$Night") rfl).2
    obtain ⟨_, _, _, _, _, h2⟩ := (hK2.2 5 (cA, .object "WarmStones$Night") rfl).2
    exact Option.some.inj (h2.symm.trans h1)
  subst e
  exact kk q H1 hP2 hD2 hS2
variable {nL n index maxL F L K N : Nat} {Ts wds wds' : List Cond} {own : String} {y : MethodName} {bytes : ByteArray} {ret : Option FieldType} {Qc : Array Value → State → Outcome → State → Prop} {free : Addr → Prop} {b : Addr} {As rest st0 : List Value} {w wc : va_W} {H0 : Heap}
theorem x_runIN (S : CallFix p m c cc nL s args Ts own) (hM : Met l y wds (cRn F K N L) (va_Pc (.ref b :: As) (cPreN G wc H.size)) Qc K N free) (hT : GoodIn Ts wds) (hw : wds = Cond.code y bytes maxL none :: wds')
    (hini : (Cond.initialized y.cls).before args s = true) (hinst : (Cond.instanceMethod y).before args s = true) (hyn : y.name = "<init>") (hq : (own, index, y) ∈ nwq)
    (hd : y.cls ≠ "java/lang/invoke/MethodHandle" ∧ y.cls ≠ "java/lang/invoke/VarHandle" ∧ (parseMethodDescriptor y.desc).map (fun d => d.parameters.length) = some n) (hR : F + 1 ≤ R.frames ∧ 8 + (maxL + 11) + L ≤ R.locals)
    (hKK : KK G s) (hAO : va_AO "WarmStones$Night" s) (hSS : SS G A s s.heap) (hS : va_S A s.heap H locs) (hA : ∀ q : Nat, s.heap.size ≤ q → A q) (hP : va_P G.1 vwCl w H) (hD : va_D A w) (isC : List Nat) (hnd : va_nd isC = true) (hC : isC.map (fun i => w[i]?) = wc.map some)
    (hn : As.length = n) (hsize : ls.size = nL) (hst : st0 = As.reverse ++ .ref b :: rest) (hW : (rest.map fun v => v.category).sum ≤ 8) (hdg : decode cc pc = .ok (.invokespecial index, 3)) (hf : k9 + K ≤ R.cells ∧ n9 + N ≤ R.slots) :
    va_Run p l e R s m args below meth c H locs k9 n9 K N (F0 m pc ls st0) rest (Qc (Value.ref b :: As).toArray) free :=
  va_runIN S hM ⟨va_cnB n S.2.2.2.2 hT hw rfl rfl (hKK.2 _ hq) hini hd hR, hyn, hinst⟩ ⟨x_blindN, x_preN hKK hAO hSS hS hA hP hD isC hnd hC⟩ rfl hn hsize hst (lv_room hW) hdg hf
theorem x_runIL (S : CallFix p m c cc nL s args Ts own) (hM : Met l y wds (cRn F K N L) (va_Pc (.ref b :: As) (cPreN G wc H.size)) Qc K N free) (hT : GoodIn Ts wds) (hw : wds = Cond.code y bytes maxL none :: wds')
    (hini : (Cond.initialized y.cls).before args s = true) (hlk : (Cond.methodLink own index y).before args s = true) (hinst : (Cond.instanceMethod y).before args s = true) (hyn : y.name = "<init>")
    (hd : y.cls ≠ "java/lang/invoke/MethodHandle" ∧ y.cls ≠ "java/lang/invoke/VarHandle" ∧ (parseMethodDescriptor y.desc).map (fun d => d.parameters.length) = some n) (hR : F + 1 ≤ R.frames ∧ 8 + (maxL + 11) + L ≤ R.locals)
    (hKK : KK G s) (hAO : va_AO "WarmStones$Night" s) (hSS : SS G A s s.heap) (hS : va_S A s.heap H locs) (hA : ∀ q : Nat, s.heap.size ≤ q → A q) (hP : va_P G.1 vwCl w H) (hD : va_D A w) (isC : List Nat) (hnd : va_nd isC = true) (hC : isC.map (fun i => w[i]?) = wc.map some)
    (hn : As.length = n) (hsize : ls.size = nL) (hst : st0 = As.reverse ++ .ref b :: rest) (hW : (rest.map fun v => v.category).sum ≤ 8) (hdg : decode cc pc = .ok (.invokespecial index, 3)) (hf : k9 + K ≤ R.cells ∧ n9 + N ≤ R.slots) :
    va_Run p l e R s m args below meth c H locs k9 n9 K N (F0 m pc ls st0) rest (Qc (Value.ref b :: As).toArray) free :=
  va_runI S hM (cwI n S.2.2.2.2 hT hw rfl rfl hini hlk hinst hyn hd hR) ⟨x_blindN, x_preN hKK hAO hSS hS hA hP hD isC hnd hC⟩ rfl hn hsize hst (lv_room hW) hdg hf
theorem x_callvN {S : Type} {Q : State → Prop} {post : S → Prop} {a : Array Value} {wr : va_W} {w1 w' : S → va_W} (hr : va_Run p l e R s m args below meth c H locs k9 n9 K N (F0 m pc ls st0) rest (va_Qv post (fun u => cPost G (va_A wc H.size) (w1 u)) (va_A wc H.size) a) (va_A wc H.size)) (hP : va_P G.1 vwCl w H) (hD : va_D A w) (hS : va_S A H0 H locs) (hA : ∀ q : Nat, H0.size ≤ q → A q) (isC isR pm : List Nat) (hC : isC.map (fun i => w[i]?) = wc.map some) (hR : isR.map (fun i => w[i]?) = wr.map some) (hn : va_nd isR = true) (hdis : ∀ i ∈ isR, i ∉ isC) (hpn : va_nd pm = true) (hpm : ∀ u, pm.map (fun i => (wr ++ w1 u)[i]?) = (w' u).map some)
    (kk : ∀ (u : S) (H1 : Heap) (locs1 : List Loc), post u → va_P G.1 vwCl (w' u) H1 → va_D A (w' u) → va_S A H0 H1 locs1 → W p l e R s m args below meth c H1 locs1 (k9 + K) (n9 + N) Q (F0 m (pc + 3) ls rest)) : W p l e R s m args below meth c H locs k9 n9 Q (F0 m pc ls st0) := by
  have hFc := va_free (wc := wc) hD hS hA isC hC
  refine va_callv hr hS (fun q _ h => hFc q h) hFc (fun u t H1 locs1 ht _ hp hB _ hk hS1 => ?_)
  obtain ⟨hP1, hD1⟩ := hB
  rw [ht] at hP1
  obtain ⟨hP2, hD2⟩ := x_put (wr := wr) hP hD hS hA isC isR pm hC hR hn hdis hpn (hpm u) hk hP1 hD1
  exact kk u H1 locs1 hp hP2 hD2 hS1
theorem x_runVG {C : String} {ci : Nat} {q : vw_C} {fs : List Value} (S : CallFix p m c cc nL s args Ts own) (hM : Met l y wds (cRm F L) (va_Pc (.ref b :: As) (cPre G wc H.size)) Qc 0 0 free) (hT : GoodIn Ts (wsV own index C y wds)) (hw : wds = Cond.code y bytes maxL ret :: wds')
    (hd : y.cls = C ∧ y.cls ≠ "java/lang/invoke/MethodHandle" ∧ y.cls ≠ "java/lang/invoke/VarHandle" ∧ (parseMethodDescriptor y.desc).map (fun d => d.parameters.length) = some n) (hR : F + 1 ≤ R.frames ∧ 8 + (maxL + 11) + L ≤ R.locals)
    (hKK : KK G s) (hSS : SS G A s s.heap) (hS : va_S A s.heap H locs) (hA : ∀ q : Nat, s.heap.size ≤ q → A q) (hP : va_P G.1 vwCl w H) (hD : va_D A w) (isC : List Nat) (hnd : va_nd isC = true) (hC : isC.map (fun i => w[i]?) = wc.map some) (hc : vwCl[ci]? = some q) (hq : q.1 = C) (q0 : Nat) (he : w[q0]? = some (b, .inr (ci, fs)))
    (hn : As.length = n) (hsize : ls.size = nL) (hst : st0 = As.reverse ++ .ref b :: rest) (hW : (rest.map fun v => v.category).sum ≤ 8) (hdg : decode cc pc = .ok (.invokevirtual index, 3)) (hk9 : k9 + 0 ≤ R.cells ∧ n9 + 0 ≤ R.slots) :
    va_Run p l e R s m args below meth c H locs k9 n9 0 0 (F0 m pc ls st0) rest (Qc (Value.ref b :: As).toArray) free :=
  va_runV S hM (cwV n S.2.2.2.2 hT hw rfl rfl hd hR) ⟨x_blind, by subst hq; exact va_recv hKK.1 hP hc he, x_pre hKK hSS hS hA hP hD isC hnd hC⟩ rfl hn hsize hst (lv_room hW) hdg hk9
theorem x_calliRG {S : Type} {Q : State → Prop} {post : Int32 → S → Prop} {a : Array Value} (hr : va_Run p l e R s m args below meth c H locs k9 n9 0 0 (F0 m pc ls st0) rest (va_Qi post (fun _ => cPost G (va_A wc H.size) wc) (va_A wc H.size) a) (va_A wc H.size)) (hP : va_P G.1 vwCl w H) (hD : va_D A w) (hS : va_S A H0 H locs) (hA : ∀ q : Nat, H0.size ≤ q → A q) (isC : List Nat) (hC : isC.map (fun i => w[i]?) = wc.map some)
    (kk : ∀ (r : Int32) (u : S) (H1 : Heap) (locs1 : List Loc), post r u → va_P G.1 vwCl w H1 → va_S A H0 H1 locs1 → W p l e R s m args below meth c H1 locs1 k9 n9 Q (F0 m (pc + 3) ls (.int r :: rest))) : W p l e R s m args below meth c H locs k9 n9 Q (F0 m pc ls st0) := by
  have hFc := va_free (wc := wc) hD hS hA isC hC
  refine va_calli hr hS (fun q _ h => hFc q h) hFc (fun r u t H1 locs1 ht _ hp hB _ hk hS1 => ?_)
  obtain ⟨hP1, -⟩ := hB
  rw [ht] at hP1
  exact kk r u H1 locs1 hp (x_keep hP hD isC hC hk hP1) hS1
theorem x_calllRG {S : Type} {Q : State → Prop} {post : Int64 → S → Prop} {a : Array Value} (hr : va_Run p l e R s m args below meth c H locs k9 n9 0 0 (F0 m pc ls st0) rest (va_Ql post (fun _ => cPost G (va_A wc H.size) wc) (va_A wc H.size) a) (va_A wc H.size)) (hP : va_P G.1 vwCl w H) (hD : va_D A w) (hS : va_S A H0 H locs) (hA : ∀ q : Nat, H0.size ≤ q → A q) (isC : List Nat) (hC : isC.map (fun i => w[i]?) = wc.map some)
    (kk : ∀ (r : Int64) (u : S) (H1 : Heap) (locs1 : List Loc), post r u → va_P G.1 vwCl w H1 → va_S A H0 H1 locs1 → W p l e R s m args below meth c H1 locs1 k9 n9 Q (F0 m (pc + 3) ls (.long r :: rest))) : W p l e R s m args below meth c H locs k9 n9 Q (F0 m pc ls st0) := by
  have hFc := va_free (wc := wc) hD hS hA isC hC
  refine va_calll hr hS (fun q _ h => hFc q h) hFc (fun r u t H1 locs1 ht _ hp hB _ hk hS1 => ?_)
  obtain ⟨hP1, -⟩ := hB
  rw [ht] at hP1
  exact kk r u H1 locs1 hp (x_keep hP hD isC hC hk hP1) hS1
theorem x_callvRG {S : Type} {Q : State → Prop} {post : S → Prop} {a : Array Value} (hr : va_Run p l e R s m args below meth c H locs k9 n9 0 0 (F0 m pc ls st0) rest (va_Qv post (fun _ => cPost G (va_A wc H.size) wc) (va_A wc H.size) a) (va_A wc H.size)) (hP : va_P G.1 vwCl w H) (hD : va_D A w) (hS : va_S A H0 H locs) (hA : ∀ q : Nat, H0.size ≤ q → A q) (isC : List Nat) (hC : isC.map (fun i => w[i]?) = wc.map some)
    (kk : ∀ (u : S) (H1 : Heap) (locs1 : List Loc), post u → va_P G.1 vwCl w H1 → va_S A H0 H1 locs1 → W p l e R s m args below meth c H1 locs1 k9 n9 Q (F0 m (pc + 3) ls rest)) : W p l e R s m args below meth c H locs k9 n9 Q (F0 m pc ls st0) := by
  have hFc := va_free (wc := wc) hD hS hA isC hC
  refine va_callv hr hS (fun q _ h => hFc q h) hFc (fun u t H1 locs1 ht _ hp hB _ hk hS1 => ?_)
  obtain ⟨hP1, -⟩ := hB
  rw [ht] at hP1
  exact kk u H1 locs1 hp (x_keep hP hD isC hC hk hP1) hS1
theorem x_calliG {S : Type} {Q : State → Prop} {post : Int32 → S → Prop} {a : Array Value} {wr : va_W} {w1 w' : S → va_W} (hr : va_Run p l e R s m args below meth c H locs k9 n9 0 0 (F0 m pc ls st0) rest (va_Qi post (fun u => cPost G (va_A wc H.size) (w1 u)) (va_A wc H.size) a) (va_A wc H.size)) (hP : va_P G.1 vwCl w H) (hD : va_D A w) (hS : va_S A H0 H locs) (hA : ∀ q : Nat, H0.size ≤ q → A q) (isC isR pm : List Nat) (hC : isC.map (fun i => w[i]?) = wc.map some) (hR : isR.map (fun i => w[i]?) = wr.map some) (hn : va_nd isR = true) (hdis : ∀ i ∈ isR, i ∉ isC) (hpn : va_nd pm = true) (hpm : ∀ u, pm.map (fun i => (wr ++ w1 u)[i]?) = (w' u).map some)
    (kk : ∀ (r : Int32) (u : S) (H1 : Heap) (locs1 : List Loc), post r u → va_P G.1 vwCl (w' u) H1 → va_D A (w' u) → va_S A H0 H1 locs1 → W p l e R s m args below meth c H1 locs1 k9 n9 Q (F0 m (pc + 3) ls (.int r :: rest))) : W p l e R s m args below meth c H locs k9 n9 Q (F0 m pc ls st0) := by
  have hFc := va_free (wc := wc) hD hS hA isC hC
  refine va_calli hr hS (fun q _ h => hFc q h) hFc (fun r u t H1 locs1 ht _ hp hB _ hk hS1 => ?_)
  obtain ⟨hP1, hD1⟩ := hB
  rw [ht] at hP1
  obtain ⟨hP2, hD2⟩ := x_put (wr := wr) hP hD hS hA isC isR pm hC hR hn hdis hpn (hpm u) hk hP1 hD1
  exact kk r u H1 locs1 hp hP2 hD2 hS1
theorem x_calllG {S : Type} {Q : State → Prop} {post : Int64 → S → Prop} {a : Array Value} {wr : va_W} {w1 w' : S → va_W} (hr : va_Run p l e R s m args below meth c H locs k9 n9 0 0 (F0 m pc ls st0) rest (va_Ql post (fun u => cPost G (va_A wc H.size) (w1 u)) (va_A wc H.size) a) (va_A wc H.size)) (hP : va_P G.1 vwCl w H) (hD : va_D A w) (hS : va_S A H0 H locs) (hA : ∀ q : Nat, H0.size ≤ q → A q) (isC isR pm : List Nat) (hC : isC.map (fun i => w[i]?) = wc.map some) (hR : isR.map (fun i => w[i]?) = wr.map some) (hn : va_nd isR = true) (hdis : ∀ i ∈ isR, i ∉ isC) (hpn : va_nd pm = true) (hpm : ∀ u, pm.map (fun i => (wr ++ w1 u)[i]?) = (w' u).map some)
    (kk : ∀ (r : Int64) (u : S) (H1 : Heap) (locs1 : List Loc), post r u → va_P G.1 vwCl (w' u) H1 → va_D A (w' u) → va_S A H0 H1 locs1 → W p l e R s m args below meth c H1 locs1 k9 n9 Q (F0 m (pc + 3) ls (.long r :: rest))) : W p l e R s m args below meth c H locs k9 n9 Q (F0 m pc ls st0) := by
  have hFc := va_free (wc := wc) hD hS hA isC hC
  refine va_calll hr hS (fun q _ h => hFc q h) hFc (fun r u t H1 locs1 ht _ hp hB _ hk hS1 => ?_)
  obtain ⟨hP1, hD1⟩ := hB
  rw [ht] at hP1
  obtain ⟨hP2, hD2⟩ := x_put (wr := wr) hP hD hS hA isC isR pm hC hR hn hdis hpn (hpm u) hk hP1 hD1
  exact kk r u H1 locs1 hp hP2 hD2 hS1
theorem x_callvG {S : Type} {Q : State → Prop} {post : S → Prop} {a : Array Value} {wr : va_W} {w1 w' : S → va_W} (hr : va_Run p l e R s m args below meth c H locs k9 n9 0 0 (F0 m pc ls st0) rest (va_Qv post (fun u => cPost G (va_A wc H.size) (w1 u)) (va_A wc H.size) a) (va_A wc H.size)) (hP : va_P G.1 vwCl w H) (hD : va_D A w) (hS : va_S A H0 H locs) (hA : ∀ q : Nat, H0.size ≤ q → A q) (isC isR pm : List Nat) (hC : isC.map (fun i => w[i]?) = wc.map some) (hR : isR.map (fun i => w[i]?) = wr.map some) (hn : va_nd isR = true) (hdis : ∀ i ∈ isR, i ∉ isC) (hpn : va_nd pm = true) (hpm : ∀ u, pm.map (fun i => (wr ++ w1 u)[i]?) = (w' u).map some)
    (kk : ∀ (u : S) (H1 : Heap) (locs1 : List Loc), post u → va_P G.1 vwCl (w' u) H1 → va_D A (w' u) → va_S A H0 H1 locs1 → W p l e R s m args below meth c H1 locs1 k9 n9 Q (F0 m (pc + 3) ls rest)) : W p l e R s m args below meth c H locs k9 n9 Q (F0 m pc ls st0) := by
  have hFc := va_free (wc := wc) hD hS hA isC hC
  refine va_callv hr hS (fun q _ h => hFc q h) hFc (fun u t H1 locs1 ht _ hp hB _ hk hS1 => ?_)
  obtain ⟨hP1, hD1⟩ := hB
  rw [ht] at hP1
  obtain ⟨hP2, hD2⟩ := x_put (wr := wr) hP hD hS hA isC isR pm hC hR hn hdis hpn (hpm u) hk hP1 hD1
  exact kk u H1 locs1 hp hP2 hD2 hS1
end XN
