/-! WRAPPERS: contracts in one form (MI, ML, MV), their entry, calls; the wp words -/
/-- the static table START of Grid, outside of A -/
def vST (tz : Nat) (A : Nat → Prop) (U : State) (H : Heap) : Prop := va_Z RX2 "START" "[I" (.ref tz) A U H ∧ va_T .int tz 5 (fun j => .int (stI j)) A U H ∧ va_AO "TrialDesk$Desk" U
theorem vST.moved {tz : Nat} {A : Nat → Prop} {u U : State} {H : Heap} (hvm : u.vm.Alike U.vm) (h : vST tz A u H) : vST tz A U H := ⟨h.1.moved hvm, h.2.1.moved hvm, h.2.2.moved hvm⟩
theorem vST.kept {tz : Nat} {A : Nat → Prop} {U : State} {H H1 : Heap} (h : vST tz A U H) (hq : ∀ a : Nat, a < H.size → ¬ A a → H1[a]? = H[a]?) : vST tz A U H1 := ⟨h.1.kept hq, h.2.1.kept hq, h.2.2⟩
theorem vST.narrow {tz : Nat} {A B : Nat → Prop} {U : State} {H : Heap} (h : vST tz A U H) (hAB : ∀ q, B q → A q) : vST tz B U H := ⟨h.1.narrow hAB, h.2.1.narrow hAB, h.2.2⟩
abbrev vTY : Type := List (ClassId × FieldType)
/-- what holds at a method's start -/
def vPr (D : va_G) (TY : vTY) (tz : Nat) (wc : va_W) (sz : Nat) (U : State) : Prop :=
  U.heap.size = sz ∧ va_P D vwCl wc U.heap ∧ va_K D vwCl TY U ∧ va_D (fun _ => True) wc ∧ vST tz (va_A wc sz) U U.heap
/-- what holds at its end -/
def vB {S : Type} (D : va_G) (w1 : S → va_W) (A : Nat → Prop) (u : S) (t : State) : Prop := va_P D vwCl (w1 u) t.heap ∧ va_D A (w1 u)
def MI {S : Type} (l : Launch) (y : MethodName) (ws : List Cond) (rm : Room) (D : va_G) (TY : vTY) (tz : Nat) (av : List Value) (wc : va_W) (post : Int32 → S → Prop) (w1 : S → va_W) (mc ms : Nat) : Prop :=
  ∀ sz : Nat, Met l y ws rm (va_Pc av (vPr D TY tz wc sz)) (va_Qi post (vB D w1 (va_A wc sz)) (va_A wc sz)) mc ms (va_A wc sz)
def ML {S : Type} (l : Launch) (y : MethodName) (ws : List Cond) (rm : Room) (D : va_G) (TY : vTY) (tz : Nat) (av : List Value) (wc : va_W) (post : Int64 → S → Prop) (w1 : S → va_W) (mc ms : Nat) : Prop :=
  ∀ sz : Nat, Met l y ws rm (va_Pc av (vPr D TY tz wc sz)) (va_Ql post (vB D w1 (va_A wc sz)) (va_A wc sz)) mc ms (va_A wc sz)
def MV {S : Type} (l : Launch) (y : MethodName) (ws : List Cond) (rm : Room) (D : va_G) (TY : vTY) (tz : Nat) (av : List Value) (wc : va_W) (post : S → Prop) (w1 : S → va_W) (mc ms : Nat) : Prop :=
  ∀ sz : Nat, Met l y ws rm (va_Pc av (vPr D TY tz wc sz)) (va_Qv post (vB D w1 (va_A wc sz)) (va_A wc sz)) mc ms (va_A wc sz)
theorem vPr.blind {D : va_G} {TY : vTY} {tz sz : Nat} {wc : va_W} {av : List Value} : FrameBlind (va_Pc av (vPr D TY tz wc sz)) := by
  intro a U g mk q
  obtain ⟨q0, q1, qP, qK, qD, qT⟩ := q
  exact ⟨q0, q1, qP, va_K.moved (u := U) (U := U.calling g mk a) (Vm.Alike.refl U.vm) qK, qD, vST.moved (u := U) (U := U.calling g mk a) (Vm.Alike.refl U.vm) qT⟩
/-- the facts of a method's start -/
def vE (p : Program) (s : State) (m : MethodId) (args : Array Value) (meth : Method) (c : Code) (A : Nat → Prop) (ls : Array Slot) (cc : ByteArray) (maxL : Nat) (ret : Option FieldType) (ws : List Cond) (y : MethodName) (D : va_G) (TY : vTY) (tz : Nat) (av : List Value) (wc : va_W) : Prop :=
  p.tables.exec = Jvm.exec ∧ c.code = cc ∧ c.maxLocals = maxL ∧ meth.sig.returnType = ret ∧ (∀ w ∈ ws, w.before args s = true) ∧ s.vm.findClass y.cls = some m.cls ∧ meth.locks = false ∧ meth.name = y.name ∧
  va_P D vwCl wc s.heap ∧ va_K D vwCl TY s ∧ va_D A wc ∧ va_S A s.heap s.heap [] ∧ (∀ q, s.heap.size ≤ q → A q) ∧ vST tz A s s.heap ∧ lv_has ls maxL (lv_args 0 av)
section WR
variable {l : Launch} {y : MethodName} {ws ws' : List Cond} {rm : Room} {D : va_G} {TY : vTY} {tz : Nat} {av : List Value} {wc : va_W} {mc ms : Nat} {cc : ByteArray} {maxL : Nat} {ret : Option FieldType}
theorem vE.of {Qc : Nat → Array Value → State → Outcome → State → Prop} {sz : Nat} (hy : plainName y.cls = true) (hw : ws = Cond.code y cc maxL ret :: ws') (hlen : (lg_sl av).length ≤ maxL)
    (body : ∀ p e s m args below meth c A ls, A = va_A wc s.heap.size → vE p s m args meth c A ls cc maxL ret ws y D TY tz av wc →
      W p l e rm s m args below meth c s.heap [] 0 0 (MQ below (Qc s.heap.size) args s mc ms A) (F0 m 0 ls [])) :
    Met l y ws rm (va_Pc av (vPr D TY tz wc sz)) (Qc sz) mc ms (va_A wc sz) := by
  refine Met.ofW (cc := cc) (maxL := maxL) (ret := ret) hy hw ?_
  intro p e s m args below meth c s₁ B hml hv
  obtain ⟨rfl, hsz, hP, hK, hD0, hT⟩ := hv
  subst hsz
  have hl := lv_entry av (n := maxL) hlen
  rw [lg_entry_eq]
  generalize (lg_sl av ++ List.replicate (maxL - (lg_sl av).length) Slot.unset).toArray = ls at hl ⊢
  exact body p e s m _ below meth c _ ls rfl ⟨B.exec, B.bytes, hml, B.returns, atoms_spec (ws := ws) B.pre, findClass_of_methodNamed B.named, B.notSynchronized, (name_of_methodNamed B.named B.method).1, hP, hK, hD0.self, va_S.rf, fun q h => Or.inr h, hT, hl⟩
theorem MI.of {S : Type} {post : Int32 → S → Prop} {w1 : S → va_W} (hy : plainName y.cls = true) (hw : ws = Cond.code y cc maxL ret :: ws') (hlen : (lg_sl av).length ≤ maxL)
    (body : ∀ p e s m args below meth c A ls Q, Q = MQ below (va_Qi post (vB D w1 A) A) args s mc ms A → vE p s m args meth c A ls cc maxL ret ws y D TY tz av wc →
      W p l e rm s m args below meth c s.heap [] 0 0 Q (F0 m 0 ls [])) : MI l y ws rm D TY tz av wc post w1 mc ms := by
  intro sz
  exact vE.of (Qc := fun z => va_Qi post (vB D w1 (va_A wc z)) (va_A wc z)) hy hw hlen (fun p e s m args below meth c A ls hA E => by subst hA; exact body p e s m args below meth c _ ls _ rfl E)
theorem ML.of {S : Type} {post : Int64 → S → Prop} {w1 : S → va_W} (hy : plainName y.cls = true) (hw : ws = Cond.code y cc maxL ret :: ws') (hlen : (lg_sl av).length ≤ maxL)
    (body : ∀ p e s m args below meth c A ls Q, Q = MQ below (va_Ql post (vB D w1 A) A) args s mc ms A → vE p s m args meth c A ls cc maxL ret ws y D TY tz av wc →
      W p l e rm s m args below meth c s.heap [] 0 0 Q (F0 m 0 ls [])) : ML l y ws rm D TY tz av wc post w1 mc ms := by
  intro sz
  exact vE.of (Qc := fun z => va_Ql post (vB D w1 (va_A wc z)) (va_A wc z)) hy hw hlen (fun p e s m args below meth c A ls hA E => by subst hA; exact body p e s m args below meth c _ ls _ rfl E)
theorem MV.of {S : Type} {post : S → Prop} {w1 : S → va_W} (hy : plainName y.cls = true) (hw : ws = Cond.code y cc maxL ret :: ws') (hlen : (lg_sl av).length ≤ maxL)
    (body : ∀ p e s m args below meth c A ls Q, Q = MQ below (va_Qv post (vB D w1 A) A) args s mc ms A → vE p s m args meth c A ls cc maxL ret ws y D TY tz av wc →
      W p l e rm s m args below meth c s.heap [] 0 0 Q (F0 m 0 ls [])) : MV l y ws rm D TY tz av wc post w1 mc ms := by
  intro sz
  exact vE.of (Qc := fun z => va_Qv post (vB D w1 (va_A wc z)) (va_A wc z)) hy hw hlen (fun p e s m args below meth c A ls hA E => by subst hA; exact body p e s m args below meth c _ ls _ rfl E)
end WR
section WE
variable {p : Program} {l : Launch} {e : Env} {R : Room} {s : State} {m : MethodId} {args : Array Value} {below : List Frame} {meth : Method} {c : Code} {H : Heap} {locs : List Loc} {cells slots : Nat} {Q : State → Prop}
variable {D : va_G} {TY : vTY} {tz : Nat} {A : Nat → Prop} {ws : va_W} {cc : ByteArray} {pc : Nat} {ls : Array Slot} {S : Type}
/-- the ends -/
theorem vr_I {post : Int32 → S → Prop} {w1 : S → va_W} {v : Int32} (u : S) (hx : p.tables.exec = Jvm.exec) (hb : c.code = cc) (hr : meth.sig.returnType = some .int) (hlk : meth.locks = false) (hP : va_P D vwCl ws H) (hD : va_D A ws) (hS : va_S A s.heap H locs) (is : List Nat) (hnd : va_nd is = true) (hsub : is.map (fun i => ws[i]?) = (w1 u).map some) (hp : post v u)
    (hd : decode cc pc = .ok (.ireturn, 1)) : W p l e R s m args below meth c H locs cells slots (MQ below (va_Qi post (vB D w1 A) A) args s cells slots A) (F0 m pc ls [.int v]) := by
  have hD9 : va_D A (w1 u) := hD.sub is hnd hsub
  have hP9 : va_P D vwCl (w1 u) H := hP.sub is (by
    have h1 := congrArg (fun z => z.filterMap id) hsub
    simpa [List.filterMap_map, Function.comp_def] using h1)
  exact W.iret hx hb hr (fun t ht hW => ⟨⟨v, u, rfl, hp, by rw [ht]; exact hP9, hD9⟩, hS.F ht⟩) hS.2.2 hd hlk
theorem vr_Z {post : Int32 → S → Prop} {w1 : S → va_W} {v : Int32} (u : S) (hx : p.tables.exec = Jvm.exec) (hb : c.code = cc) (hr : meth.sig.returnType = some .boolean) (hlk : meth.locks = false) (hn : narrow .boolean (.int v) = .int v) (hP : va_P D vwCl ws H) (hD : va_D A ws) (hS : va_S A s.heap H locs) (is : List Nat) (hnd : va_nd is = true) (hsub : is.map (fun i => ws[i]?) = (w1 u).map some) (hp : post v u)
    (hd : decode cc pc = .ok (.ireturn, 1)) : W p l e R s m args below meth c H locs cells slots (MQ below (va_Qi post (vB D w1 A) A) args s cells slots A) (F0 m pc ls [.int v]) := by
  have hD9 : va_D A (w1 u) := hD.sub is hnd hsub
  have hP9 : va_P D vwCl (w1 u) H := hP.sub is (by
    have h1 := congrArg (fun z => z.filterMap id) hsub
    simpa [List.filterMap_map, Function.comp_def] using h1)
  exact W.zret hx hb hr hn (fun t ht hW => ⟨⟨v, u, rfl, hp, by rw [ht]; exact hP9, hD9⟩, hS.F ht⟩) hS.2.2 hd hlk
theorem vr_L {post : Int64 → S → Prop} {w1 : S → va_W} {v : Int64} (u : S) (hx : p.tables.exec = Jvm.exec) (hb : c.code = cc) (hr : meth.sig.returnType = some .long) (hlk : meth.locks = false) (hP : va_P D vwCl ws H) (hD : va_D A ws) (hS : va_S A s.heap H locs) (is : List Nat) (hnd : va_nd is = true) (hsub : is.map (fun i => ws[i]?) = (w1 u).map some) (hp : post v u)
    (hd : decode cc pc = .ok (.lreturn, 1)) : W p l e R s m args below meth c H locs cells slots (MQ below (va_Ql post (vB D w1 A) A) args s cells slots A) (F0 m pc ls [.long v]) := by
  have hD9 : va_D A (w1 u) := hD.sub is hnd hsub
  have hP9 : va_P D vwCl (w1 u) H := hP.sub is (by
    have h1 := congrArg (fun z => z.filterMap id) hsub
    simpa [List.filterMap_map, Function.comp_def] using h1)
  exact W.lret hx hb hr (fun t ht hW => ⟨⟨v, u, rfl, hp, by rw [ht]; exact hP9, hD9⟩, hS.F ht⟩) hS.2.2 hd hlk
theorem vr_V {post : S → Prop} {w1 : S → va_W} (u : S) (hx : p.tables.exec = Jvm.exec) (hb : c.code = cc) (hr : meth.sig.returnType = none) (hlk : meth.locks = false) (hP : va_P D vwCl ws H) (hD : va_D A ws) (hS : va_S A s.heap H locs) (is : List Nat) (hnd : va_nd is = true) (hsub : is.map (fun i => ws[i]?) = (w1 u).map some) (hp : post u)
    (hd : decode cc pc = .ok (.return_, 1)) : W p l e R s m args below meth c H locs cells slots (MQ below (va_Qv post (vB D w1 A) A) args s cells slots A) (F0 m pc ls []) := by
  have hD9 : va_D A (w1 u) := hD.sub is hnd hsub
  have hP9 : va_P D vwCl (w1 u) H := hP.sub is (by
    have h1 := congrArg (fun z => z.filterMap id) hsub
    simpa [List.filterMap_map, Function.comp_def] using h1)
  exact W.vret hx hb hr (fun t ht hW => ⟨⟨u, rfl, hp, by rw [ht]; exact hP9, hD9⟩, hS.F ht⟩) hS.2.2 hd hlk
variable {y : MethodName} {wsC Ts : List Cond} {rm : Room} {mc ms nL n index maxL : Nat} {own C : String} {bytes : ByteArray} {ret : Option FieldType} {b : Nat} {As rest st : List Value} {wc wr : va_W}
/-- what a call needs of the caller's world -/
theorem v_pre (hK : va_K D vwCl TY s) (hP : va_P D vwCl ws H) (hD : va_D A ws) (hS : va_S A s.heap H locs) (hA : ∀ q, s.heap.size ≤ q → A q) (hT : vST tz A s s.heap) (isC : List Nat) (hC : isC.map (fun i => ws[i]?) = wc.map some) (hnd : va_nd isC = true) :
    (∀ q, va_A wc H.size q → A q) ∧ ∀ U : State, U.heap = H → s.WarmedH U.vm → vPr D TY tz wc H.size U := by
  have hF := va_free (wc := wc) hD hS hA isC hC
  refine ⟨hF, fun U hU hW => ⟨by rw [hU], ?_, va_K.moved hW.alike hK, (hD.sub isC hnd hC).weaken (fun _ _ _ _ => trivial), ?_⟩⟩
  · rw [hU]
    exact hP.sub isC (by
      have h1 := congrArg (fun z => z.filterMap id) hC
      simpa [List.filterMap_map, Function.comp_def] using h1)
  · rw [hU]
    exact ((hT.kept (H1 := H) (fun a h1 h2 => hS.2.1 a h1 h2)).narrow hF).moved hW.alike
theorem vc_VI {post : Int32 → S → Prop} {w1 : S → va_W} (F : CallFix p m c cc nL s args Ts own) (hM : MI l y wsC rm D TY tz (.ref b :: As) wc post w1 mc ms) (cw : CallW R s args own C index y bytes maxL ret wsC rm mc ms n)
    (hK : va_K D vwCl TY s) (hP : va_P D vwCl ws H) (hD : va_D A ws) (hS : va_S A s.heap H locs) (hA : ∀ q, s.heap.size ≤ q → A q) (hT : vST tz A s s.heap) (isC isR : List Nat) (hC : isC.map (fun i => ws[i]?) = wc.map some) (hR : isR.map (fun i => ws[i]?) = wr.map some) (hnc : va_nd isC = true) (hnr : va_nd isR = true) (hdis : ∀ i ∈ isR, i ∉ isC)
    (q0 ci : Nat) {T0 : u_T} {N0 : Nat} {fs : List Value} (hc : vwCl[ci]? = some (C, T0, N0)) (he : ws[q0]? = some (b, .inr (ci, fs))) (hst : st = As.reverse ++ .ref b :: rest) (hlen : As.length = n) (hsize : ls.size = nL) (hW : (rest.map fun v => v.category).sum ≤ 8) (hdg : decode cc pc = .ok (.invokevirtual index, 3)) (hf : cells + mc ≤ R.cells ∧ slots + ms ≤ R.slots)
    (kk : ∀ (r : Int32) (u : S) (H1 : Heap) (locs1 : List Loc), post r u → va_P D vwCl (wr ++ w1 u) H1 → va_D A (wr ++ w1 u) → va_S A s.heap H1 locs1 → W p l e R s m args below meth c H1 locs1 (cells + mc) (slots + ms) Q (F0 m (pc + 3) ls (.int r :: rest))) :
    W p l e R s m args below meth c H locs cells slots Q (F0 m pc ls st) := by
  subst hst
  obtain ⟨hF, hPre⟩ := v_pre (wc := wc) hK hP hD hS hA hT isC hC hnc
  refine va_calli (va_runV (As := As) (rest := rest) F (hM H.size) cw ⟨vPr.blind, va_recv hK hP hc he, fun U hU hW => ⟨rfl, hPre U hU hW⟩⟩ rfl hlen hsize rfl (lv_room hW) hdg hf) hS (fun q _ h => hF q h) hF (fun r u t H1 locs1 ht hvm hw hB hz1 hk1 hS1 => ?_)
  obtain ⟨hP1, hD1⟩ := hB
  rw [ht] at hP1
  obtain ⟨hP2, hD2⟩ := va_join (wr := wr) (w1 := w1 u) hP hD isC isR hC hR hnr hdis hk1 hF hP1 hD1
  exact kk r u H1 locs1 hw hP2 hD2 hS1
theorem vc_VL {post : Int64 → S → Prop} {w1 : S → va_W} (F : CallFix p m c cc nL s args Ts own) (hM : ML l y wsC rm D TY tz (.ref b :: As) wc post w1 mc ms) (cw : CallW R s args own C index y bytes maxL ret wsC rm mc ms n)
    (hK : va_K D vwCl TY s) (hP : va_P D vwCl ws H) (hD : va_D A ws) (hS : va_S A s.heap H locs) (hA : ∀ q, s.heap.size ≤ q → A q) (hT : vST tz A s s.heap) (isC isR : List Nat) (hC : isC.map (fun i => ws[i]?) = wc.map some) (hR : isR.map (fun i => ws[i]?) = wr.map some) (hnc : va_nd isC = true) (hnr : va_nd isR = true) (hdis : ∀ i ∈ isR, i ∉ isC)
    (q0 ci : Nat) {T0 : u_T} {N0 : Nat} {fs : List Value} (hc : vwCl[ci]? = some (C, T0, N0)) (he : ws[q0]? = some (b, .inr (ci, fs))) (hst : st = As.reverse ++ .ref b :: rest) (hlen : As.length = n) (hsize : ls.size = nL) (hW : (rest.map fun v => v.category).sum ≤ 8) (hdg : decode cc pc = .ok (.invokevirtual index, 3)) (hf : cells + mc ≤ R.cells ∧ slots + ms ≤ R.slots)
    (kk : ∀ (r : Int64) (u : S) (H1 : Heap) (locs1 : List Loc), post r u → va_P D vwCl (wr ++ w1 u) H1 → va_D A (wr ++ w1 u) → va_S A s.heap H1 locs1 → W p l e R s m args below meth c H1 locs1 (cells + mc) (slots + ms) Q (F0 m (pc + 3) ls (.long r :: rest))) :
    W p l e R s m args below meth c H locs cells slots Q (F0 m pc ls st) := by
  subst hst
  obtain ⟨hF, hPre⟩ := v_pre (wc := wc) hK hP hD hS hA hT isC hC hnc
  refine va_calll (va_runV (As := As) (rest := rest) F (hM H.size) cw ⟨vPr.blind, va_recv hK hP hc he, fun U hU hW => ⟨rfl, hPre U hU hW⟩⟩ rfl hlen hsize rfl (lv_room hW) hdg hf) hS (fun q _ h => hF q h) hF (fun r u t H1 locs1 ht hvm hw hB hz1 hk1 hS1 => ?_)
  obtain ⟨hP1, hD1⟩ := hB
  rw [ht] at hP1
  obtain ⟨hP2, hD2⟩ := va_join (wr := wr) (w1 := w1 u) hP hD isC isR hC hR hnr hdis hk1 hF hP1 hD1
  exact kk r u H1 locs1 hw hP2 hD2 hS1
theorem vc_VV {post : S → Prop} {w1 : S → va_W} (F : CallFix p m c cc nL s args Ts own) (hM : MV l y wsC rm D TY tz (.ref b :: As) wc post w1 mc ms) (cw : CallW R s args own C index y bytes maxL ret wsC rm mc ms n)
    (hK : va_K D vwCl TY s) (hP : va_P D vwCl ws H) (hD : va_D A ws) (hS : va_S A s.heap H locs) (hA : ∀ q, s.heap.size ≤ q → A q) (hT : vST tz A s s.heap) (isC isR : List Nat) (hC : isC.map (fun i => ws[i]?) = wc.map some) (hR : isR.map (fun i => ws[i]?) = wr.map some) (hnc : va_nd isC = true) (hnr : va_nd isR = true) (hdis : ∀ i ∈ isR, i ∉ isC)
    (q0 ci : Nat) {T0 : u_T} {N0 : Nat} {fs : List Value} (hc : vwCl[ci]? = some (C, T0, N0)) (he : ws[q0]? = some (b, .inr (ci, fs))) (hst : st = As.reverse ++ .ref b :: rest) (hlen : As.length = n) (hsize : ls.size = nL) (hW : (rest.map fun v => v.category).sum ≤ 8) (hdg : decode cc pc = .ok (.invokevirtual index, 3)) (hf : cells + mc ≤ R.cells ∧ slots + ms ≤ R.slots)
    (kk : ∀ (u : S) (H1 : Heap) (locs1 : List Loc), post u → va_P D vwCl (wr ++ w1 u) H1 → va_D A (wr ++ w1 u) → va_S A s.heap H1 locs1 → W p l e R s m args below meth c H1 locs1 (cells + mc) (slots + ms) Q (F0 m (pc + 3) ls rest)) :
    W p l e R s m args below meth c H locs cells slots Q (F0 m pc ls st) := by
  subst hst
  obtain ⟨hF, hPre⟩ := v_pre (wc := wc) hK hP hD hS hA hT isC hC hnc
  refine va_callv (va_runV (As := As) (rest := rest) F (hM H.size) cw ⟨vPr.blind, va_recv hK hP hc he, fun U hU hW => ⟨rfl, hPre U hU hW⟩⟩ rfl hlen hsize rfl (lv_room hW) hdg hf) hS (fun q _ h => hF q h) hF (fun u t H1 locs1 ht hvm hw hB hz1 hk1 hS1 => ?_)
  obtain ⟨hP1, hD1⟩ := hB
  rw [ht] at hP1
  obtain ⟨hP2, hD2⟩ := va_join (wr := wr) (w1 := w1 u) hP hD isC isR hC hR hnr hdis hk1 hF hP1 hD1
  exact kk u H1 locs1 hw hP2 hD2 hS1
theorem vc_SI {post : Int32 → S → Prop} {w1 : S → va_W} (F : CallFix p m c cc nL s args Ts own) (hM : MI l y wsC rm D TY tz As wc post w1 mc ms) (cw : CallB R s args own index y bytes maxL ret wsC rm mc ms n ∧ (Cond.static y).before args s = true)
    (hK : va_K D vwCl TY s) (hP : va_P D vwCl ws H) (hD : va_D A ws) (hS : va_S A s.heap H locs) (hA : ∀ q, s.heap.size ≤ q → A q) (hT : vST tz A s s.heap) (isC isR : List Nat) (hC : isC.map (fun i => ws[i]?) = wc.map some) (hR : isR.map (fun i => ws[i]?) = wr.map some) (hnc : va_nd isC = true) (hnr : va_nd isR = true) (hdis : ∀ i ∈ isR, i ∉ isC)
    (hst : st = As.reverse ++ rest) (hlen : As.length = n) (hsize : ls.size = nL) (hW : (rest.map fun v => v.category).sum ≤ 8) (hdg : decode cc pc = .ok (.invokestatic index, 3)) (hf : cells + mc ≤ R.cells ∧ slots + ms ≤ R.slots)
    (kk : ∀ (r : Int32) (u : S) (H1 : Heap) (locs1 : List Loc), post r u → va_P D vwCl (wr ++ w1 u) H1 → va_D A (wr ++ w1 u) → va_S A s.heap H1 locs1 → W p l e R s m args below meth c H1 locs1 (cells + mc) (slots + ms) Q (F0 m (pc + 3) ls (.int r :: rest))) :
    W p l e R s m args below meth c H locs cells slots Q (F0 m pc ls st) := by
  subst hst
  obtain ⟨hF, hPre⟩ := v_pre (wc := wc) hK hP hD hS hA hT isC hC hnc
  refine va_calli (va_runS (As := As) (rest := rest) F (hM H.size) cw ⟨vPr.blind, fun U hU hW => ⟨rfl, hPre U hU hW⟩⟩ rfl hlen hsize rfl (lv_room hW) hdg hf) hS (fun q _ h => hF q h) hF (fun r u t H1 locs1 ht hvm hw hB hz1 hk1 hS1 => ?_)
  obtain ⟨hP1, hD1⟩ := hB
  rw [ht] at hP1
  obtain ⟨hP2, hD2⟩ := va_join (wr := wr) (w1 := w1 u) hP hD isC isR hC hR hnr hdis hk1 hF hP1 hD1
  exact kk r u H1 locs1 hw hP2 hD2 hS1
theorem vc_SL {post : Int64 → S → Prop} {w1 : S → va_W} (F : CallFix p m c cc nL s args Ts own) (hM : ML l y wsC rm D TY tz As wc post w1 mc ms) (cw : CallB R s args own index y bytes maxL ret wsC rm mc ms n ∧ (Cond.static y).before args s = true)
    (hK : va_K D vwCl TY s) (hP : va_P D vwCl ws H) (hD : va_D A ws) (hS : va_S A s.heap H locs) (hA : ∀ q, s.heap.size ≤ q → A q) (hT : vST tz A s s.heap) (isC isR : List Nat) (hC : isC.map (fun i => ws[i]?) = wc.map some) (hR : isR.map (fun i => ws[i]?) = wr.map some) (hnc : va_nd isC = true) (hnr : va_nd isR = true) (hdis : ∀ i ∈ isR, i ∉ isC)
    (hst : st = As.reverse ++ rest) (hlen : As.length = n) (hsize : ls.size = nL) (hW : (rest.map fun v => v.category).sum ≤ 8) (hdg : decode cc pc = .ok (.invokestatic index, 3)) (hf : cells + mc ≤ R.cells ∧ slots + ms ≤ R.slots)
    (kk : ∀ (r : Int64) (u : S) (H1 : Heap) (locs1 : List Loc), post r u → va_P D vwCl (wr ++ w1 u) H1 → va_D A (wr ++ w1 u) → va_S A s.heap H1 locs1 → W p l e R s m args below meth c H1 locs1 (cells + mc) (slots + ms) Q (F0 m (pc + 3) ls (.long r :: rest))) :
    W p l e R s m args below meth c H locs cells slots Q (F0 m pc ls st) := by
  subst hst
  obtain ⟨hF, hPre⟩ := v_pre (wc := wc) hK hP hD hS hA hT isC hC hnc
  refine va_calll (va_runS (As := As) (rest := rest) F (hM H.size) cw ⟨vPr.blind, fun U hU hW => ⟨rfl, hPre U hU hW⟩⟩ rfl hlen hsize rfl (lv_room hW) hdg hf) hS (fun q _ h => hF q h) hF (fun r u t H1 locs1 ht hvm hw hB hz1 hk1 hS1 => ?_)
  obtain ⟨hP1, hD1⟩ := hB
  rw [ht] at hP1
  obtain ⟨hP2, hD2⟩ := va_join (wr := wr) (w1 := w1 u) hP hD isC isR hC hR hnr hdis hk1 hF hP1 hD1
  exact kk r u H1 locs1 hw hP2 hD2 hS1
theorem vc_SV {post : S → Prop} {w1 : S → va_W} (F : CallFix p m c cc nL s args Ts own) (hM : MV l y wsC rm D TY tz As wc post w1 mc ms) (cw : CallB R s args own index y bytes maxL ret wsC rm mc ms n ∧ (Cond.static y).before args s = true)
    (hK : va_K D vwCl TY s) (hP : va_P D vwCl ws H) (hD : va_D A ws) (hS : va_S A s.heap H locs) (hA : ∀ q, s.heap.size ≤ q → A q) (hT : vST tz A s s.heap) (isC isR : List Nat) (hC : isC.map (fun i => ws[i]?) = wc.map some) (hR : isR.map (fun i => ws[i]?) = wr.map some) (hnc : va_nd isC = true) (hnr : va_nd isR = true) (hdis : ∀ i ∈ isR, i ∉ isC)
    (hst : st = As.reverse ++ rest) (hlen : As.length = n) (hsize : ls.size = nL) (hW : (rest.map fun v => v.category).sum ≤ 8) (hdg : decode cc pc = .ok (.invokestatic index, 3)) (hf : cells + mc ≤ R.cells ∧ slots + ms ≤ R.slots)
    (kk : ∀ (u : S) (H1 : Heap) (locs1 : List Loc), post u → va_P D vwCl (wr ++ w1 u) H1 → va_D A (wr ++ w1 u) → va_S A s.heap H1 locs1 → W p l e R s m args below meth c H1 locs1 (cells + mc) (slots + ms) Q (F0 m (pc + 3) ls rest)) :
    W p l e R s m args below meth c H locs cells slots Q (F0 m pc ls st) := by
  subst hst
  obtain ⟨hF, hPre⟩ := v_pre (wc := wc) hK hP hD hS hA hT isC hC hnc
  refine va_callv (va_runS (As := As) (rest := rest) F (hM H.size) cw ⟨vPr.blind, fun U hU hW => ⟨rfl, hPre U hU hW⟩⟩ rfl hlen hsize rfl (lv_room hW) hdg hf) hS (fun q _ h => hF q h) hF (fun u t H1 locs1 ht hvm hw hB hz1 hk1 hS1 => ?_)
  obtain ⟨hP1, hD1⟩ := hB
  rw [ht] at hP1
  obtain ⟨hP2, hD2⟩ := va_join (wr := wr) (w1 := w1 u) hP hD isC isR hC hR hnr hdis hk1 hF hP1 hD1
  exact kk u H1 locs1 hw hP2 hD2 hS1
/-- a constructor -/
theorem vc_IV {post : S → Prop} {w1 : S → va_W} (F : CallFix p m c cc nL s args Ts own) (hM : MV l y wsC rm D TY tz (.ref b :: As) wc post w1 mc ms) (cw : CallB R s args own index y bytes maxL none wsC rm mc ms n ∧ y.name = "<init>" ∧ (Cond.instanceMethod y).before args s = true)
    (hK : va_K D vwCl TY s) (hP : va_P D vwCl ws H) (hD : va_D A ws) (hS : va_S A s.heap H locs) (hA : ∀ q, s.heap.size ≤ q → A q) (hT : vST tz A s s.heap) (isC isR : List Nat) (hC : isC.map (fun i => ws[i]?) = wc.map some) (hR : isR.map (fun i => ws[i]?) = wr.map some) (hnc : va_nd isC = true) (hnr : va_nd isR = true) (hdis : ∀ i ∈ isR, i ∉ isC)
    (hst : st = As.reverse ++ .ref b :: rest) (hlen : As.length = n) (hsize : ls.size = nL) (hW : (rest.map fun v => v.category).sum ≤ 8) (hdg : decode cc pc = .ok (.invokespecial index, 3)) (hf : cells + mc ≤ R.cells ∧ slots + ms ≤ R.slots)
    (kk : ∀ (u : S) (H1 : Heap) (locs1 : List Loc), post u → va_P D vwCl (wr ++ w1 u) H1 → va_D A (wr ++ w1 u) → va_S A s.heap H1 locs1 → W p l e R s m args below meth c H1 locs1 (cells + mc) (slots + ms) Q (F0 m (pc + 3) ls rest)) :
    W p l e R s m args below meth c H locs cells slots Q (F0 m pc ls st) := by
  subst hst
  obtain ⟨hF, hPre⟩ := v_pre (wc := wc) hK hP hD hS hA hT isC hC hnc
  refine va_callv (va_runI (As := As) (rest := rest) F (hM H.size) cw ⟨vPr.blind, fun U hU hW => ⟨rfl, hPre U hU hW⟩⟩ rfl hlen hsize rfl (lv_room hW) hdg hf) hS (fun q _ h => hF q h) hF (fun u t H1 locs1 ht hvm hw hB hz1 hk1 hS1 => ?_)
  obtain ⟨hP1, hD1⟩ := hB
  rw [ht] at hP1
  obtain ⟨hP2, hD2⟩ := va_join (wr := wr) (w1 := w1 u) hP hD isC isR hC hR hnr hdis hk1 hF hP1 hD1
  exact kk u H1 locs1 hw hP2 hD2 hS1
end WE
section WA
variable {p : Program} {l : Launch} {e : Env} {R : Room} {s : State} {m : MethodId} {args : Array Value} {below : List Frame} {meth : Method} {c : Code} {H : Heap} {locs : List Loc} {cells slots : Nat} {Q : State → Prop}
variable {D : va_G} {cl : List vw_C} {tys : vTY} {A : Nat → Prop} {H0 : Heap} {ws : va_W} {cc : ByteArray} {pc a : Nat} {ls : Array Slot} {rest : List Value}
theorem vi_ald (hx : p.tables.exec = Jvm.exec) (hb : c.code = cc) (hK : va_K D cl tys s) (hP : va_P D cl ws H) (q0 t0 : Nat) {cA : ClassId} {n : Nat} {f : Nat → Int32} (ha : ws[q0]? = some (a, .inl (cA, n, .inl f))) (ht : tys[t0]? = some (cA, .int)) {i : Int32} (hin : vp_in i n) {k : Nat} (hk : i.toNatClampNeg = k) (hdg : decode cc pc = .ok (.iaload, 1))
    (kk : W p l e R s m args below meth c H locs cells slots Q (F0 m (pc + 1) ls (.int (f k) :: rest))) : W p l e R s m args below meth c H locs cells slots Q (F0 m pc ls (.int i :: .ref a :: rest)) := by
  subst hk; exact va_iald hx hb hK hP q0 t0 ha ht hin hdg kk
theorem vb_ald (hx : p.tables.exec = Jvm.exec) (hb : c.code = cc) (hK : va_K D cl tys s) (hP : va_P D cl ws H) (q0 t0 : Nat) {cA : ClassId} {n : Nat} {f : Nat → Int32} (ha : ws[q0]? = some (a, .inl (cA, n, .inl f))) (ht : tys[t0]? = some (cA, .byte)) {i : Int32} (hin : vp_in i n) {k : Nat} (hk : i.toNatClampNeg = k) (hdg : decode cc pc = .ok (.baload, 1))
    (kk : W p l e R s m args below meth c H locs cells slots Q (F0 m (pc + 1) ls (.int (f k) :: rest))) : W p l e R s m args below meth c H locs cells slots Q (F0 m pc ls (.int i :: .ref a :: rest)) := by
  subst hk; exact va_bald hx hb hK hP q0 t0 ha ht hin hdg kk
theorem vz_ald (hx : p.tables.exec = Jvm.exec) (hb : c.code = cc) (hK : va_K D cl tys s) (hP : va_P D cl ws H) (q0 t0 : Nat) {cA : ClassId} {n : Nat} {f : Nat → Int32} (ha : ws[q0]? = some (a, .inl (cA, n, .inl f))) (ht : tys[t0]? = some (cA, .boolean)) {i : Int32} (hin : vp_in i n) {k : Nat} (hk : i.toNatClampNeg = k) (hdg : decode cc pc = .ok (.baload, 1))
    (kk : W p l e R s m args below meth c H locs cells slots Q (F0 m (pc + 1) ls (.int (f k) :: rest))) : W p l e R s m args below meth c H locs cells slots Q (F0 m pc ls (.int i :: .ref a :: rest)) := by
  subst hk; exact va_zald hx hb hK hP q0 t0 ha ht hin hdg kk
theorem vl_ald (hx : p.tables.exec = Jvm.exec) (hb : c.code = cc) (hK : va_K D cl tys s) (hP : va_P D cl ws H) (q0 t0 : Nat) {cA : ClassId} {n : Nat} {f : Nat → Int64} (ha : ws[q0]? = some (a, .inl (cA, n, .inr (.inl f)))) (ht : tys[t0]? = some (cA, .long)) {i : Int32} (hin : vp_in i n) {k : Nat} (hk : i.toNatClampNeg = k) (hdg : decode cc pc = .ok (.laload, 1))
    (kk : W p l e R s m args below meth c H locs cells slots Q (F0 m (pc + 1) ls (.long (f k) :: rest))) : W p l e R s m args below meth c H locs cells slots Q (F0 m pc ls (.int i :: .ref a :: rest)) := by
  subst hk; exact va_lald hx hb hK hP q0 t0 ha ht hin hdg kk
theorem vi_ast (hx : p.tables.exec = Jvm.exec) (hb : c.code = cc) (hK : va_K D cl tys s) (hP : va_P D cl ws H) (hD : va_D A ws) (hS : va_S A H0 H locs) (q0 t0 : Nat) {cA : ClassId} {n : Nat} {f : Nat → Int32} (ha : ws[q0]? = some (a, .inl (cA, n, .inl f))) (ht : tys[t0]? = some (cA, .int)) {i : Int32} {x : Int32} (hin : vp_in i n) {k : Nat} (hk : i.toNatClampNeg = k) (hdg : decode cc pc = .ok (.iastore, 1))
    (kk : ∀ (H1 : Heap) (locs1 : List Loc), va_P D cl (ws.set q0 (a, .inl (cA, n, .inl (upd f k x)))) H1 → va_D A (ws.set q0 (a, .inl (cA, n, .inl (upd f k x)))) → va_S A H0 H1 locs1 → W p l e R s m args below meth c H1 locs1 cells slots Q (F0 m (pc + 1) ls rest)) : W p l e R s m args below meth c H locs cells slots Q (F0 m pc ls (.int x :: .int i :: .ref a :: rest)) := by
  subst hk; exact va_iast hx hb hK hP hD hS q0 t0 ha ht hin hdg kk
theorem vb_ast (hx : p.tables.exec = Jvm.exec) (hb : c.code = cc) (hK : va_K D cl tys s) (hP : va_P D cl ws H) (hD : va_D A ws) (hS : va_S A H0 H locs) (q0 t0 : Nat) {cA : ClassId} {n : Nat} {f : Nat → Int32} (ha : ws[q0]? = some (a, .inl (cA, n, .inl f))) (ht : tys[t0]? = some (cA, .byte)) {i : Int32} {x : Int32} (hin : vp_in i n) {k : Nat} (hk : i.toNatClampNeg = k) (hdg : decode cc pc = .ok (.bastore, 1))
    (kk : ∀ (H1 : Heap) (locs1 : List Loc), va_P D cl (ws.set q0 (a, .inl (cA, n, .inl (upd f k (vp_nar .byte x))))) H1 → va_D A (ws.set q0 (a, .inl (cA, n, .inl (upd f k (vp_nar .byte x))))) → va_S A H0 H1 locs1 → W p l e R s m args below meth c H1 locs1 cells slots Q (F0 m (pc + 1) ls rest)) : W p l e R s m args below meth c H locs cells slots Q (F0 m pc ls (.int x :: .int i :: .ref a :: rest)) := by
  subst hk; exact va_bast hx hb hK hP hD hS q0 t0 ha ht hin hdg kk
theorem vz_ast (hx : p.tables.exec = Jvm.exec) (hb : c.code = cc) (hK : va_K D cl tys s) (hP : va_P D cl ws H) (hD : va_D A ws) (hS : va_S A H0 H locs) (q0 t0 : Nat) {cA : ClassId} {n : Nat} {f : Nat → Int32} (ha : ws[q0]? = some (a, .inl (cA, n, .inl f))) (ht : tys[t0]? = some (cA, .boolean)) {i : Int32} {x : Int32} (hin : vp_in i n) {k : Nat} (hk : i.toNatClampNeg = k) (hdg : decode cc pc = .ok (.bastore, 1))
    (kk : ∀ (H1 : Heap) (locs1 : List Loc), va_P D cl (ws.set q0 (a, .inl (cA, n, .inl (upd f k (vp_nar .boolean x))))) H1 → va_D A (ws.set q0 (a, .inl (cA, n, .inl (upd f k (vp_nar .boolean x))))) → va_S A H0 H1 locs1 → W p l e R s m args below meth c H1 locs1 cells slots Q (F0 m (pc + 1) ls rest)) : W p l e R s m args below meth c H locs cells slots Q (F0 m pc ls (.int x :: .int i :: .ref a :: rest)) := by
  subst hk; exact va_zast hx hb hK hP hD hS q0 t0 ha ht hin hdg kk
theorem vl_ast (hx : p.tables.exec = Jvm.exec) (hb : c.code = cc) (hK : va_K D cl tys s) (hP : va_P D cl ws H) (hD : va_D A ws) (hS : va_S A H0 H locs) (q0 t0 : Nat) {cA : ClassId} {n : Nat} {f : Nat → Int64} (ha : ws[q0]? = some (a, .inl (cA, n, .inr (.inl f)))) (ht : tys[t0]? = some (cA, .long)) {i : Int32} {x : Int64} (hin : vp_in i n) {k : Nat} (hk : i.toNatClampNeg = k) (hdg : decode cc pc = .ok (.lastore, 1))
    (kk : ∀ (H1 : Heap) (locs1 : List Loc), va_P D cl (ws.set q0 (a, .inl (cA, n, .inr (.inl (vp_updL f k x))))) H1 → va_D A (ws.set q0 (a, .inl (cA, n, .inr (.inl (vp_updL f k x))))) → va_S A H0 H1 locs1 → W p l e R s m args below meth c H1 locs1 cells slots Q (F0 m (pc + 1) ls rest)) : W p l e R s m args below meth c H locs cells slots Q (F0 m pc ls (.long x :: .int i :: .ref a :: rest)) := by
  subst hk; exact va_last hx hb hK hP hD hS q0 t0 ha ht hin hdg kk
/-- the static table START -/
theorem vs_ald {tz : Nat} (hx : p.tables.exec = Jvm.exec) (hb : c.code = cc) (hT : vST tz A s s.heap) (hS : va_S A s.heap H locs) {i : Int32} (hin : vp_in i 5) {k : Nat} (hk : i.toNatClampNeg = k) (hdg : decode cc pc = .ok (.iaload, 1))
    (kk : W p l e R s m args below meth c H locs cells slots Q (F0 m (pc + 1) ls (.int (stI k) :: rest))) : W p l e R s m args below meth c H locs cells slots Q (F0 m pc ls (.int i :: .ref tz :: rest)) := by
  subst hk; exact va_ti hx hb hT.2.1 hS hin rfl hdg kk
end WA
abbrev vTy (cB cI cJ cZ cR : ClassId) : vTY := [(cB, .byte), (cI, .int), (cJ, .long), (cZ, .boolean), (cR, .object "TrialDesk$Desk")]
theorem vlit (i : Int32) (n : Nat) (h : decide (¬ (i < 0 ∨ n ≤ i.toNatClampNeg)) = true) : vp_in i n := by unfold vp_in; exact of_decide_eq_true h
theorem arrV_cong {cA : ClassId} {N : Nat} {f g : Nat → Value} (h : ∀ j, j < N → f j = g j) : arrV cA N f = arrV cA N g := by
  unfold arrV
  congr 1
  apply Array.ext (by simp)
  intro i h1 h2
  simp only [Array.size_ofFn] at h1
  simp only [Array.getElem_ofFn]
  exact h i h1
/-- an array's cell knows only the places that it has -/
theorem va_P.cell {D : va_G} {cl : List vw_C} {ws : va_W} {H : Heap} (hP : va_P D cl ws H) (i : Nat) {a : Nat} {cA : ClassId} {x y : vp_A} (he : ws[i]? = some (a, .inl (cA, x))) (hx : vp_cell cA x = vp_cell cA y) : va_P D cl (ws.set i (a, .inl (cA, y))) H := by
  have hl := (List.getElem?_eq_some_iff.mp he).1
  intro k q hk
  by_cases h : k = i
  · subst h
    rw [List.getElem?_set_self hl] at hk
    cases hk
    have h1 := hP k _ he
    show H[a]? = some (vp_cell cA y)
    rw [← hx]
    exact h1
  · rw [List.getElem?_set_ne (fun e => h e.symm)] at hk
    exact hP k q hk
theorem cell_i {cA : ClassId} {n : Nat} {f g : Nat → Int32} (h : ∀ j, j < n → f j = g j) : vp_cell cA (n, .inl f) = vp_cell cA (n, .inl g) := by
  rw [vp_cell_i, vp_cell_i]; exact arrV_cong (fun j hj => by rw [h j hj])
theorem cell_l {cA : ClassId} {n : Nat} {f g : Nat → Int64} (h : ∀ j, j < n → f j = g j) : vp_cell cA (n, .inr (.inl f)) = vp_cell cA (n, .inr (.inl g)) := by
  rw [vp_cell_l, vp_cell_l]; exact arrV_cong (fun j hj => by rw [h j hj])
theorem cell_q {cA : ClassId} {n : Nat} {f g : Nat → Option Nat} (h : ∀ j, j < n → f j = g j) : vp_cell cA (n, .inr (.inr (.inr (.inr f)))) = vp_cell cA (n, .inr (.inr (.inr (.inr g)))) := by
  rw [vp_cell_q, vp_cell_q]; exact arrV_cong (fun j hj => by rw [h j hj])
theorem list_set_set {α : Type} (l : List α) (i : Nat) (a b : α) : (l.set i a).set i b = l.set i b := by simp
section WC
variable {p : Program} {l : Launch} {e : Env} {R : Room} {s : State} {m : MethodId} {args : Array Value} {below : List Frame} {meth : Method} {c : Code} {H : Heap} {locs : List Loc} {cells slots : Nat} {Q : State → Prop}
variable {D : va_G} {cl : List vw_C} {tys : vTY} {A : Nat → Prop} {H0 : Heap} {ws : va_W} {cc : ByteArray} {pc a : Nat} {ls : Array Slot} {rest : List Value}
/-- arraycopy from place 0 to place 0 -/
theorem vcp_i (hx : p.tables.exec = Jvm.exec) (hb : c.code = cc) (hml : c.maxLocals = ls.size) {own : String} {index : Nat} (hown : s.vm.findClass own = some m.cls) (hlink : (Cond.methodLink own index arraycopyName).before args s = true) (hnat : (Cond.native arraycopyName).before args s = true) (hstat : (Cond.static arraycopyName).before args s = true) (hini : (Cond.initialized "java/lang/System").before args s = true)
    (hK : va_K D cl tys s) (hP : va_P D cl ws H) (hD : va_D A ws) (hS : va_S A H0 H locs) (q0 q1 : Nat) {a0 : Nat} {cA : ClassId} {n0 n1 : Nat} {f g : Nat → Int32} (ha0 : ws[q0]? = some (a0, .inl (cA, n0, .inl f))) (ha1 : ws[q1]? = some (a, .inl (cA, n1, .inl g))) (ht0 : tys[1]? = some (cA, .int)) {n : Int32} {k : Nat} (hk : n.toNatClampNeg = k) (h3 : ¬ n < 0) (h4 : k ≤ n0) (h5 : k = n1) (hz : decide ((0 : Int32) < 0) = false) (hr : refKind .int = false)
    (hframes : 1 ≤ R.frames) (hlocals : (rest.map fun v => v.category).sum + (nativeFrameWords "java/lang/System" "arraycopy" 5 + 11) ≤ R.locals) (hdg : decode cc pc = .ok (.invokestatic index, 3))
    (kk : ∀ (H1 : Heap) (locs1 : List Loc), va_P D cl (ws.set q1 (a, .inl (cA, n1, .inl f))) H1 → va_D A (ws.set q1 (a, .inl (cA, n1, .inl f))) → va_S A H0 H1 locs1 → W p l e R s m args below meth c H1 locs1 cells slots Q (F0 m (pc + 3) ls rest)) :
    W p l e R s m args below meth c H locs cells slots Q (F0 m pc ls (.int n :: .int 0 :: .ref a :: .int 0 :: .ref a0 :: rest)) := by
  have e0 : (0 : Int32).toNatClampNeg = 0 := rfl
  subst hk
  exact va_copyi hx hb hml hown hlink hnat hstat hini hK hP hD hS q0 q1 1 1 (ty := .int) ha0 ha1 ht0 ht0 hr (by decide) (by decide) h3 (by rw [e0, Nat.zero_add]; exact h4) (by rw [e0, Nat.zero_add]; exact Nat.le_of_eq h5) (fun _ _ => rfl) hframes hlocals hdg (fun H1 locs1 hP1 hD1 hS1 => by
    have hl := (List.getElem?_eq_some_iff.mp ha1).1
    have e1 := List.getElem?_set_self (l := ws) (i := q1) (a := (a, (.inl (cA, n1, .inl (va_cpy f g (0 : Int32).toNatClampNeg (0 : Int32).toNatClampNeg n.toNatClampNeg)) : va_E))) hl
    have hP2 := hP1.cell q1 e1 (y := (n1, .inl f)) (cell_i (fun j hj => by rw [e0, pk_cpy_in (Nat.zero_le j) (by omega)]; simp))
    have hD2 := hD1.set (e := (.inl (cA, n1, .inl f) : va_E)) e1
    rw [list_set_set] at hP2 hD2
    exact kk H1 locs1 hP2 hD2 hS1)
theorem vcp_l (hx : p.tables.exec = Jvm.exec) (hb : c.code = cc) (hml : c.maxLocals = ls.size) {own : String} {index : Nat} (hown : s.vm.findClass own = some m.cls) (hlink : (Cond.methodLink own index arraycopyName).before args s = true) (hnat : (Cond.native arraycopyName).before args s = true) (hstat : (Cond.static arraycopyName).before args s = true) (hini : (Cond.initialized "java/lang/System").before args s = true)
    (hK : va_K D cl tys s) (hP : va_P D cl ws H) (hD : va_D A ws) (hS : va_S A H0 H locs) (q0 q1 : Nat) {a0 : Nat} {cA : ClassId} {n0 n1 : Nat} {f g : Nat → Int64} (ha0 : ws[q0]? = some (a0, .inl (cA, n0, .inr (.inl f)))) (ha1 : ws[q1]? = some (a, .inl (cA, n1, .inr (.inl g)))) (ht0 : tys[2]? = some (cA, .long)) {n : Int32} {k : Nat} (hk : n.toNatClampNeg = k) (h3 : ¬ n < 0) (h4 : k ≤ n0) (h5 : k = n1) (hz : decide ((0 : Int32) < 0) = false) (hr : refKind .long = false)
    (hframes : 1 ≤ R.frames) (hlocals : (rest.map fun v => v.category).sum + (nativeFrameWords "java/lang/System" "arraycopy" 5 + 11) ≤ R.locals) (hdg : decode cc pc = .ok (.invokestatic index, 3))
    (kk : ∀ (H1 : Heap) (locs1 : List Loc), va_P D cl (ws.set q1 (a, .inl (cA, n1, .inr (.inl f)))) H1 → va_D A (ws.set q1 (a, .inl (cA, n1, .inr (.inl f)))) → va_S A H0 H1 locs1 → W p l e R s m args below meth c H1 locs1 cells slots Q (F0 m (pc + 3) ls rest)) :
    W p l e R s m args below meth c H locs cells slots Q (F0 m pc ls (.int n :: .int 0 :: .ref a :: .int 0 :: .ref a0 :: rest)) := by
  have e0 : (0 : Int32).toNatClampNeg = 0 := rfl
  subst hk
  exact va_copyl hx hb hml hown hlink hnat hstat hini hK hP hD hS q0 q1 2 2 (ty := .long) ha0 ha1 ht0 ht0 hr (by decide) (by decide) h3 (by rw [e0, Nat.zero_add]; exact h4) (by rw [e0, Nat.zero_add]; exact Nat.le_of_eq h5) (fun _ _ => rfl) hframes hlocals hdg (fun H1 locs1 hP1 hD1 hS1 => by
    have hl := (List.getElem?_eq_some_iff.mp ha1).1
    have e1 := List.getElem?_set_self (l := ws) (i := q1) (a := (a, (.inl (cA, n1, .inr (.inl (va_cpy f g (0 : Int32).toNatClampNeg (0 : Int32).toNatClampNeg n.toNatClampNeg))) : va_E))) hl
    have hP2 := hP1.cell q1 e1 (y := (n1, .inr (.inl f))) (cell_l (fun j hj => by rw [e0, pk_cpy_in (Nat.zero_le j) (by omega)]; simp))
    have hD2 := hD1.set (e := (.inl (cA, n1, .inr (.inl f)) : va_E)) e1
    rw [list_set_set] at hP2 hD2
    exact kk H1 locs1 hP2 hD2 hS1)
end WC
theorem vsw (N : Nat) (hN : N < 2 ^ 31) (x : Int32) : (∃ j : Nat, j < N + 1 ∧ x = nI j) ∨ (x.toInt < 0 ∨ (N : Int) < x.toInt) := by
  rcases Int.lt_or_le x.toInt 0 with h | h
  · exact Or.inr (Or.inl h)
  · rcases Int.lt_or_le (N : Int) x.toInt with h2 | h2
    · exact Or.inr (Or.inr h2)
    · refine Or.inl ⟨x.toInt.toNat, by omega, ?_⟩
      apply Int32.toInt_inj.mp
      rw [nI_toInt (by omega)]
      omega
/-- another post and another picture of the same cells -/
theorem MV.world {S S' : Type} {l : Launch} {y : MethodName} {ws : List Cond} {rm : Room} {D : va_G} {TY : vTY} {tz : Nat} {av : List Value} {wc : va_W} {post : S → Prop} {w1 : S → va_W} {post' : S' → Prop} {w1' : S' → va_W} {mc ms : Nat} (hM : MV l y ws rm D TY tz av wc post w1 mc ms)
    (h : ∀ u, post u → ∃ u', post' u' ∧ ∀ (H : Heap) (A : Nat → Prop), va_P D vwCl (w1 u) H → va_D A (w1 u) → va_P D vwCl (w1' u') H ∧ va_D A (w1' u')) : MV l y ws rm D TY tz av wc post' w1' mc ms := by
  intro sz
  refine MetFree.mono (hM sz) (fun _ _ h => h) (fun _ _ _ _ _ h => h) ?_
  intro a st o t _ hq
  obtain ⟨⟨⟨u, ho, hp, hP, hD⟩, hF⟩, hL⟩ := hq
  obtain ⟨u', hp', hw⟩ := h u hp
  exact ⟨⟨⟨u', ho, hp', hw _ _ hP hD⟩, hF⟩, hL⟩
/-- the eight desks that History keeps -/
def vHB (cI : ClassId) (hq : Nat → Nat) (hs : Nat → DS) : va_W := [(hq 0, .inr (1, [.int (hs 0).1, .int (hs 0).2.1, .int (hs 0).2.2.1, .int (hs 0).2.2.2.1, .long (hs 0).2.2.2.2.1, .ref (hq 1), .ref (hq 2), .ref (hq 3), .ref (hq 4), .ref (hq 5), .ref (hq 6)])), (hq 1, .inl (cI, 5, .inl (hs 0).2.2.2.2.2.1)), (hq 2, .inl (cI, 64, .inl (hs 0).2.2.2.2.2.2.1)), (hq 3, .inl (cI, 4, .inl (hs 0).2.2.2.2.2.2.2.1)), (hq 4, .inl (cI, 4, .inl (hs 0).2.2.2.2.2.2.2.2.1)), (hq 5, .inl (cI, 64, .inl (hs 0).2.2.2.2.2.2.2.2.2.1)), (hq 6, .inl (cI, 64, .inl (hs 0).2.2.2.2.2.2.2.2.2.2)), (hq 7, .inr (1, [.int (hs 1).1, .int (hs 1).2.1, .int (hs 1).2.2.1, .int (hs 1).2.2.2.1, .long (hs 1).2.2.2.2.1, .ref (hq 8), .ref (hq 9), .ref (hq 10), .ref (hq 11), .ref (hq 12), .ref (hq 13)])), (hq 8, .inl (cI, 5, .inl (hs 1).2.2.2.2.2.1)), (hq 9, .inl (cI, 64, .inl (hs 1).2.2.2.2.2.2.1)), (hq 10, .inl (cI, 4, .inl (hs 1).2.2.2.2.2.2.2.1)), (hq 11, .inl (cI, 4, .inl (hs 1).2.2.2.2.2.2.2.2.1)), (hq 12, .inl (cI, 64, .inl (hs 1).2.2.2.2.2.2.2.2.2.1)), (hq 13, .inl (cI, 64, .inl (hs 1).2.2.2.2.2.2.2.2.2.2)), (hq 14, .inr (1, [.int (hs 2).1, .int (hs 2).2.1, .int (hs 2).2.2.1, .int (hs 2).2.2.2.1, .long (hs 2).2.2.2.2.1, .ref (hq 15), .ref (hq 16), .ref (hq 17), .ref (hq 18), .ref (hq 19), .ref (hq 20)])), (hq 15, .inl (cI, 5, .inl (hs 2).2.2.2.2.2.1)), (hq 16, .inl (cI, 64, .inl (hs 2).2.2.2.2.2.2.1)), (hq 17, .inl (cI, 4, .inl (hs 2).2.2.2.2.2.2.2.1)), (hq 18, .inl (cI, 4, .inl (hs 2).2.2.2.2.2.2.2.2.1)), (hq 19, .inl (cI, 64, .inl (hs 2).2.2.2.2.2.2.2.2.2.1)), (hq 20, .inl (cI, 64, .inl (hs 2).2.2.2.2.2.2.2.2.2.2)), (hq 21, .inr (1, [.int (hs 3).1, .int (hs 3).2.1, .int (hs 3).2.2.1, .int (hs 3).2.2.2.1, .long (hs 3).2.2.2.2.1, .ref (hq 22), .ref (hq 23), .ref (hq 24), .ref (hq 25), .ref (hq 26), .ref (hq 27)])), (hq 22, .inl (cI, 5, .inl (hs 3).2.2.2.2.2.1)), (hq 23, .inl (cI, 64, .inl (hs 3).2.2.2.2.2.2.1)), (hq 24, .inl (cI, 4, .inl (hs 3).2.2.2.2.2.2.2.1)), (hq 25, .inl (cI, 4, .inl (hs 3).2.2.2.2.2.2.2.2.1)), (hq 26, .inl (cI, 64, .inl (hs 3).2.2.2.2.2.2.2.2.2.1)), (hq 27, .inl (cI, 64, .inl (hs 3).2.2.2.2.2.2.2.2.2.2)), (hq 28, .inr (1, [.int (hs 4).1, .int (hs 4).2.1, .int (hs 4).2.2.1, .int (hs 4).2.2.2.1, .long (hs 4).2.2.2.2.1, .ref (hq 29), .ref (hq 30), .ref (hq 31), .ref (hq 32), .ref (hq 33), .ref (hq 34)])), (hq 29, .inl (cI, 5, .inl (hs 4).2.2.2.2.2.1)), (hq 30, .inl (cI, 64, .inl (hs 4).2.2.2.2.2.2.1)), (hq 31, .inl (cI, 4, .inl (hs 4).2.2.2.2.2.2.2.1)), (hq 32, .inl (cI, 4, .inl (hs 4).2.2.2.2.2.2.2.2.1)), (hq 33, .inl (cI, 64, .inl (hs 4).2.2.2.2.2.2.2.2.2.1)), (hq 34, .inl (cI, 64, .inl (hs 4).2.2.2.2.2.2.2.2.2.2)), (hq 35, .inr (1, [.int (hs 5).1, .int (hs 5).2.1, .int (hs 5).2.2.1, .int (hs 5).2.2.2.1, .long (hs 5).2.2.2.2.1, .ref (hq 36), .ref (hq 37), .ref (hq 38), .ref (hq 39), .ref (hq 40), .ref (hq 41)])), (hq 36, .inl (cI, 5, .inl (hs 5).2.2.2.2.2.1)), (hq 37, .inl (cI, 64, .inl (hs 5).2.2.2.2.2.2.1)), (hq 38, .inl (cI, 4, .inl (hs 5).2.2.2.2.2.2.2.1)), (hq 39, .inl (cI, 4, .inl (hs 5).2.2.2.2.2.2.2.2.1)), (hq 40, .inl (cI, 64, .inl (hs 5).2.2.2.2.2.2.2.2.2.1)), (hq 41, .inl (cI, 64, .inl (hs 5).2.2.2.2.2.2.2.2.2.2)), (hq 42, .inr (1, [.int (hs 6).1, .int (hs 6).2.1, .int (hs 6).2.2.1, .int (hs 6).2.2.2.1, .long (hs 6).2.2.2.2.1, .ref (hq 43), .ref (hq 44), .ref (hq 45), .ref (hq 46), .ref (hq 47), .ref (hq 48)])), (hq 43, .inl (cI, 5, .inl (hs 6).2.2.2.2.2.1)), (hq 44, .inl (cI, 64, .inl (hs 6).2.2.2.2.2.2.1)), (hq 45, .inl (cI, 4, .inl (hs 6).2.2.2.2.2.2.2.1)), (hq 46, .inl (cI, 4, .inl (hs 6).2.2.2.2.2.2.2.2.1)), (hq 47, .inl (cI, 64, .inl (hs 6).2.2.2.2.2.2.2.2.2.1)), (hq 48, .inl (cI, 64, .inl (hs 6).2.2.2.2.2.2.2.2.2.2)), (hq 49, .inr (1, [.int (hs 7).1, .int (hs 7).2.1, .int (hs 7).2.2.1, .int (hs 7).2.2.2.1, .long (hs 7).2.2.2.2.1, .ref (hq 50), .ref (hq 51), .ref (hq 52), .ref (hq 53), .ref (hq 54), .ref (hq 55)])), (hq 50, .inl (cI, 5, .inl (hs 7).2.2.2.2.2.1)), (hq 51, .inl (cI, 64, .inl (hs 7).2.2.2.2.2.2.1)), (hq 52, .inl (cI, 4, .inl (hs 7).2.2.2.2.2.2.2.1)), (hq 53, .inl (cI, 4, .inl (hs 7).2.2.2.2.2.2.2.2.1)), (hq 54, .inl (cI, 64, .inl (hs 7).2.2.2.2.2.2.2.2.2.1)), (hq 55, .inl (cI, 64, .inl (hs 7).2.2.2.2.2.2.2.2.2.2))]

section WQ
variable {p : Program} {l : Launch} {e : Env} {R : Room} {s : State} {m : MethodId} {args : Array Value} {below : List Frame} {meth : Method} {c : Code} {H : Heap} {locs : List Loc} {cells slots : Nat} {Q : State → Prop}
variable {D : va_G} {cl : List vw_C} {tys : vTY} {A : Nat → Prop} {H0 : Heap} {ws : va_W} {cc : ByteArray} {pc a : Nat} {ls : Array Slot} {rest : List Value}
theorem vq_ald (hx : p.tables.exec = Jvm.exec) (hb : c.code = cc) (hK : va_K D cl tys s) (hP : va_P D cl ws H) (q0 t0 : Nat) {cA : ClassId} {C : String} {n : Nat} {f : Nat → Option Nat} (ha : ws[q0]? = some (a, .inl (cA, n, .inr (.inr (.inr (.inr f)))))) (ht : tys[t0]? = some (cA, .object C)) {i : Int32} (hin : vp_in i n) {v : Nat} (hv : f i.toNatClampNeg = some v) (hdg : decode cc pc = .ok (.aaload, 1))
    (kk : W p l e R s m args below meth c H locs cells slots Q (F0 m (pc + 1) ls (.ref v :: rest))) : W p l e R s m args below meth c H locs cells slots Q (F0 m pc ls (.int i :: .ref a :: rest)) := by
  refine va_aldq hx hb hK hP q0 t0 ha ht hin hdg ?_
  rw [hv]
  exact kk
end WQ
/-- the array class of a kind is one -/
theorem va_K.cls {D : va_G} {cl : List vw_C} {TY : vTY} {s : State} {cA cB : ClassId} {ty : FieldType} (hK : va_K D cl (TY ++ [(cA, ty)]) s) (t : Nat) (ht : TY[t]? = some (cB, ty)) (hp : (match ty with | .object _ => false | _ => true) = true) : cA = cB := by
  have h1 := (hK.2 TY.length (cA, ty) (by simp)).2
  have h2 := (hK.2 t (cB, ty) (by rw [List.getElem?_append_left (List.getElem?_eq_some_iff.mp ht).1]; exact ht)).2
  cases ty with
  | object C => cases hp
  | _ =>
    have e := h1.symm.trans h2
    exact Option.some.inj e
theorem va_K.clsq {D : va_G} {cl : List vw_C} {TY : vTY} {s : State} {cA cB : ClassId} {C : String} (hK : va_K D cl (TY ++ [(cA, .object C)]) s) (t : Nat) (ht : TY[t]? = some (cB, .object C)) : cA = cB := by
  obtain ⟨_, _, _, _, _, h1⟩ := (hK.2 TY.length (cA, .object C) (by simp)).2
  obtain ⟨_, _, _, _, _, h2⟩ := (hK.2 t (cB, .object C) (by rw [List.getElem?_append_left (List.getElem?_eq_some_iff.mp ht).1]; exact ht)).2
  exact Option.some.inj (h1.symm.trans h2)
