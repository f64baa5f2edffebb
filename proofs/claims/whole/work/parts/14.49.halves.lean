/-! CALLS IN A WORLD OF TWO HALVES -/
section HV
variable {p : Program} {l : Launch} {e : Env} {R : Room} {s : State} {m : MethodId} {args : Array Value} {below : List Frame} {meth : Method} {c : Code} {H : Heap} {locs : List Loc} {cells slots : Nat} {Q : State → Prop}
variable {D : va_G} {TY : vTY} {tz : Nat} {A : Nat → Prop} {wa wb : va_W} {cc : ByteArray} {pc : Nat} {ls : Array Slot} {S : Type}
variable {y : MethodName} {wsC Ts : List Cond} {rm : Room} {mc ms nL n index maxL : Nat} {own C : String} {bytes : ByteArray} {ret : Option FieldType} {b : Nat} {As rest st : List Value} {w1 : S → va_W}
theorem h_X (hK : va_K D vwCl TY s) (hP : va_P D vwCl (wa ++ wb) H) (hD : va_D A (wa ++ wb)) (hS : va_S A s.heap H locs) (hA : ∀ q, s.heap.size ≤ q → A q) (hT : vST tz A s s.heap) : (∀ q, va_A wa H.size q → A q) ∧ (∀ U : State, U.heap = H → s.WarmedH U.vm → vPr D TY tz wa H.size U) ∧ va_P D vwCl wa H := by
  obtain ⟨h1, h2⟩ := v_pre (wc := wa) hK hP hD hS hA hT (List.range' 0 wa.length) (rng_l wa wb) (va_nd_range _ _)
  exact ⟨h1, h2, hP.sub _ (sub_of (rng_l wa wb))⟩
theorem h_M (hK : va_K D vwCl TY s) (hP : va_P D vwCl (wa ++ wb) H) (hD : va_D A (wa ++ wb)) (hS : va_S A s.heap H locs) (hA : ∀ q, s.heap.size ≤ q → A q) (hT : vST tz A s s.heap) : (∀ q, va_A wb H.size q → A q) ∧ (∀ U : State, U.heap = H → s.WarmedH U.vm → vPr D TY tz wb H.size U) ∧ va_P D vwCl wb H := by
  obtain ⟨h1, h2⟩ := v_pre (wc := wb) hK hP hD hS hA hT (List.range' wa.length wb.length) (rng_r wa wb) (va_nd_range _ _)
  exact ⟨h1, h2, hP.sub _ (sub_of (rng_r wa wb))⟩
theorem j_X {H1 : Heap} (hP : va_P D vwCl (wa ++ wb) H) (hD : va_D A (wa ++ wb)) {u : S} (hF : ∀ q, va_A wa H.size q → A q) (hk1 : ∀ q : Nat, q < H.size → ¬ va_A wa H.size q → H1[q]? = H[q]?) (hP1 : va_P D vwCl (w1 u) H1) (hD1 : va_D (va_A wa H.size) (w1 u)) : va_P D vwCl (w1 u ++ wb) H1 ∧ va_D A (w1 u ++ wb) := by
  obtain ⟨hP2, hD2⟩ := va_join (wr := wb) (w1 := w1 u) hP hD (List.range' 0 wa.length) (List.range' wa.length wb.length) (rng_l wa wb) (rng_r wa wb) (va_nd_range _ _) (by have := rng_dis 0 wa.length wb.length; rwa [Nat.zero_add] at this) hk1 hF hP1 hD1
  exact ⟨hP2.comm, hD2.comm⟩
theorem j_M {H1 : Heap} (hP : va_P D vwCl (wa ++ wb) H) (hD : va_D A (wa ++ wb)) {u : S} (hF : ∀ q, va_A wb H.size q → A q) (hk1 : ∀ q : Nat, q < H.size → ¬ va_A wb H.size q → H1[q]? = H[q]?) (hP1 : va_P D vwCl (w1 u) H1) (hD1 : va_D (va_A wb H.size) (w1 u)) : va_P D vwCl (wa ++ w1 u) H1 ∧ va_D A (wa ++ w1 u) :=
  va_join (wr := wa) (w1 := w1 u) hP hD (List.range' wa.length wb.length) (List.range' 0 wa.length) (rng_r wa wb) (rng_l wa wb) (va_nd_range _ _) (rng_dis' _ _) hk1 hF hP1 hD1
theorem vX_I {post : Int32 → S → Prop} (F : CallFix p m c cc nL s args Ts own) (hM : MI l y wsC rm D TY tz (.ref b :: As) wa post w1 mc ms) (cw : CallW R s args own C index y bytes maxL ret wsC rm mc ms n)
    (hK : va_K D vwCl TY s) (hP : va_P D vwCl (wa ++ wb) H) (hD : va_D A (wa ++ wb)) (hS : va_S A s.heap H locs) (hA : ∀ q, s.heap.size ≤ q → A q) (hT : vST tz A s s.heap)
    (ci : Nat) {T0 : u_T} {N0 : Nat} {fs : List Value} (hc : vwCl[ci]? = some (C, T0, N0)) (he : wa[0]? = some (b, .inr (ci, fs))) (hst : st = As.reverse ++ .ref b :: rest) (hlen : As.length = n) (hsize : ls.size = nL) (hW : (rest.map fun v => v.category).sum ≤ 8) (hdg : decode cc pc = .ok (.invokevirtual index, 3)) (hf : cells + mc ≤ R.cells ∧ slots + ms ≤ R.slots)
    (kk : ∀ (r : Int32) (u : S) (H1 : Heap) (locs1 : List Loc), post r u → va_P D vwCl (w1 u ++ wb) H1 → va_D A (w1 u ++ wb) → va_S A s.heap H1 locs1 → W p l e R s m args below meth c H1 locs1 (cells + mc) (slots + ms) Q (F0 m (pc + 3) ls (.int r :: rest))) :
    W p l e R s m args below meth c H locs cells slots Q (F0 m pc ls st) := by
  subst hst
  obtain ⟨hF, hPre, hPh⟩ := h_X hK hP hD hS hA hT
  refine va_calli (va_runV (As := As) (rest := rest) F (hM H.size) cw ⟨vPr.blind, va_recv hK hPh hc he, fun U hU hW => ⟨rfl, hPre U hU hW⟩⟩ rfl hlen hsize rfl (lv_room hW) hdg hf) hS (fun q _ h => hF q h) hF (fun r u t H1 locs1 ht hvm hw hB hz1 hk1 hS1 => ?_)
  obtain ⟨hP1, hD1⟩ := hB
  rw [ht] at hP1
  obtain ⟨hP2, hD2⟩ := j_X hP hD hF hk1 hP1 hD1
  exact kk r u H1 locs1 hw hP2 hD2 hS1
theorem vX_L {post : Int64 → S → Prop} (F : CallFix p m c cc nL s args Ts own) (hM : ML l y wsC rm D TY tz (.ref b :: As) wa post w1 mc ms) (cw : CallW R s args own C index y bytes maxL ret wsC rm mc ms n)
    (hK : va_K D vwCl TY s) (hP : va_P D vwCl (wa ++ wb) H) (hD : va_D A (wa ++ wb)) (hS : va_S A s.heap H locs) (hA : ∀ q, s.heap.size ≤ q → A q) (hT : vST tz A s s.heap)
    (ci : Nat) {T0 : u_T} {N0 : Nat} {fs : List Value} (hc : vwCl[ci]? = some (C, T0, N0)) (he : wa[0]? = some (b, .inr (ci, fs))) (hst : st = As.reverse ++ .ref b :: rest) (hlen : As.length = n) (hsize : ls.size = nL) (hW : (rest.map fun v => v.category).sum ≤ 8) (hdg : decode cc pc = .ok (.invokevirtual index, 3)) (hf : cells + mc ≤ R.cells ∧ slots + ms ≤ R.slots)
    (kk : ∀ (r : Int64) (u : S) (H1 : Heap) (locs1 : List Loc), post r u → va_P D vwCl (w1 u ++ wb) H1 → va_D A (w1 u ++ wb) → va_S A s.heap H1 locs1 → W p l e R s m args below meth c H1 locs1 (cells + mc) (slots + ms) Q (F0 m (pc + 3) ls (.long r :: rest))) :
    W p l e R s m args below meth c H locs cells slots Q (F0 m pc ls st) := by
  subst hst
  obtain ⟨hF, hPre, hPh⟩ := h_X hK hP hD hS hA hT
  refine va_calll (va_runV (As := As) (rest := rest) F (hM H.size) cw ⟨vPr.blind, va_recv hK hPh hc he, fun U hU hW => ⟨rfl, hPre U hU hW⟩⟩ rfl hlen hsize rfl (lv_room hW) hdg hf) hS (fun q _ h => hF q h) hF (fun r u t H1 locs1 ht hvm hw hB hz1 hk1 hS1 => ?_)
  obtain ⟨hP1, hD1⟩ := hB
  rw [ht] at hP1
  obtain ⟨hP2, hD2⟩ := j_X hP hD hF hk1 hP1 hD1
  exact kk r u H1 locs1 hw hP2 hD2 hS1
theorem vX_V {post : S → Prop} (F : CallFix p m c cc nL s args Ts own) (hM : MV l y wsC rm D TY tz (.ref b :: As) wa post w1 mc ms) (cw : CallW R s args own C index y bytes maxL ret wsC rm mc ms n)
    (hK : va_K D vwCl TY s) (hP : va_P D vwCl (wa ++ wb) H) (hD : va_D A (wa ++ wb)) (hS : va_S A s.heap H locs) (hA : ∀ q, s.heap.size ≤ q → A q) (hT : vST tz A s s.heap)
    (ci : Nat) {T0 : u_T} {N0 : Nat} {fs : List Value} (hc : vwCl[ci]? = some (C, T0, N0)) (he : wa[0]? = some (b, .inr (ci, fs))) (hst : st = As.reverse ++ .ref b :: rest) (hlen : As.length = n) (hsize : ls.size = nL) (hW : (rest.map fun v => v.category).sum ≤ 8) (hdg : decode cc pc = .ok (.invokevirtual index, 3)) (hf : cells + mc ≤ R.cells ∧ slots + ms ≤ R.slots)
    (kk : ∀ (u : S) (H1 : Heap) (locs1 : List Loc), post u → va_P D vwCl (w1 u ++ wb) H1 → va_D A (w1 u ++ wb) → va_S A s.heap H1 locs1 → W p l e R s m args below meth c H1 locs1 (cells + mc) (slots + ms) Q (F0 m (pc + 3) ls (rest))) :
    W p l e R s m args below meth c H locs cells slots Q (F0 m pc ls st) := by
  subst hst
  obtain ⟨hF, hPre, hPh⟩ := h_X hK hP hD hS hA hT
  refine va_callv (va_runV (As := As) (rest := rest) F (hM H.size) cw ⟨vPr.blind, va_recv hK hPh hc he, fun U hU hW => ⟨rfl, hPre U hU hW⟩⟩ rfl hlen hsize rfl (lv_room hW) hdg hf) hS (fun q _ h => hF q h) hF (fun u t H1 locs1 ht hvm hw hB hz1 hk1 hS1 => ?_)
  obtain ⟨hP1, hD1⟩ := hB
  rw [ht] at hP1
  obtain ⟨hP2, hD2⟩ := j_X hP hD hF hk1 hP1 hD1
  exact kk u H1 locs1 hw hP2 hD2 hS1
theorem vM_I {post : Int32 → S → Prop} (F : CallFix p m c cc nL s args Ts own) (hM : MI l y wsC rm D TY tz (.ref b :: As) wb post w1 mc ms) (cw : CallW R s args own C index y bytes maxL ret wsC rm mc ms n)
    (hK : va_K D vwCl TY s) (hP : va_P D vwCl (wa ++ wb) H) (hD : va_D A (wa ++ wb)) (hS : va_S A s.heap H locs) (hA : ∀ q, s.heap.size ≤ q → A q) (hT : vST tz A s s.heap)
    (ci : Nat) {T0 : u_T} {N0 : Nat} {fs : List Value} (hc : vwCl[ci]? = some (C, T0, N0)) (he : wb[0]? = some (b, .inr (ci, fs))) (hst : st = As.reverse ++ .ref b :: rest) (hlen : As.length = n) (hsize : ls.size = nL) (hW : (rest.map fun v => v.category).sum ≤ 8) (hdg : decode cc pc = .ok (.invokevirtual index, 3)) (hf : cells + mc ≤ R.cells ∧ slots + ms ≤ R.slots)
    (kk : ∀ (r : Int32) (u : S) (H1 : Heap) (locs1 : List Loc), post r u → va_P D vwCl (wa ++ w1 u) H1 → va_D A (wa ++ w1 u) → va_S A s.heap H1 locs1 → W p l e R s m args below meth c H1 locs1 (cells + mc) (slots + ms) Q (F0 m (pc + 3) ls (.int r :: rest))) :
    W p l e R s m args below meth c H locs cells slots Q (F0 m pc ls st) := by
  subst hst
  obtain ⟨hF, hPre, hPh⟩ := h_M hK hP hD hS hA hT
  refine va_calli (va_runV (As := As) (rest := rest) F (hM H.size) cw ⟨vPr.blind, va_recv hK hPh hc he, fun U hU hW => ⟨rfl, hPre U hU hW⟩⟩ rfl hlen hsize rfl (lv_room hW) hdg hf) hS (fun q _ h => hF q h) hF (fun r u t H1 locs1 ht hvm hw hB hz1 hk1 hS1 => ?_)
  obtain ⟨hP1, hD1⟩ := hB
  rw [ht] at hP1
  obtain ⟨hP2, hD2⟩ := j_M hP hD hF hk1 hP1 hD1
  exact kk r u H1 locs1 hw hP2 hD2 hS1
theorem vM_L {post : Int64 → S → Prop} (F : CallFix p m c cc nL s args Ts own) (hM : ML l y wsC rm D TY tz (.ref b :: As) wb post w1 mc ms) (cw : CallW R s args own C index y bytes maxL ret wsC rm mc ms n)
    (hK : va_K D vwCl TY s) (hP : va_P D vwCl (wa ++ wb) H) (hD : va_D A (wa ++ wb)) (hS : va_S A s.heap H locs) (hA : ∀ q, s.heap.size ≤ q → A q) (hT : vST tz A s s.heap)
    (ci : Nat) {T0 : u_T} {N0 : Nat} {fs : List Value} (hc : vwCl[ci]? = some (C, T0, N0)) (he : wb[0]? = some (b, .inr (ci, fs))) (hst : st = As.reverse ++ .ref b :: rest) (hlen : As.length = n) (hsize : ls.size = nL) (hW : (rest.map fun v => v.category).sum ≤ 8) (hdg : decode cc pc = .ok (.invokevirtual index, 3)) (hf : cells + mc ≤ R.cells ∧ slots + ms ≤ R.slots)
    (kk : ∀ (r : Int64) (u : S) (H1 : Heap) (locs1 : List Loc), post r u → va_P D vwCl (wa ++ w1 u) H1 → va_D A (wa ++ w1 u) → va_S A s.heap H1 locs1 → W p l e R s m args below meth c H1 locs1 (cells + mc) (slots + ms) Q (F0 m (pc + 3) ls (.long r :: rest))) :
    W p l e R s m args below meth c H locs cells slots Q (F0 m pc ls st) := by
  subst hst
  obtain ⟨hF, hPre, hPh⟩ := h_M hK hP hD hS hA hT
  refine va_calll (va_runV (As := As) (rest := rest) F (hM H.size) cw ⟨vPr.blind, va_recv hK hPh hc he, fun U hU hW => ⟨rfl, hPre U hU hW⟩⟩ rfl hlen hsize rfl (lv_room hW) hdg hf) hS (fun q _ h => hF q h) hF (fun r u t H1 locs1 ht hvm hw hB hz1 hk1 hS1 => ?_)
  obtain ⟨hP1, hD1⟩ := hB
  rw [ht] at hP1
  obtain ⟨hP2, hD2⟩ := j_M hP hD hF hk1 hP1 hD1
  exact kk r u H1 locs1 hw hP2 hD2 hS1
theorem vM_V {post : S → Prop} (F : CallFix p m c cc nL s args Ts own) (hM : MV l y wsC rm D TY tz (.ref b :: As) wb post w1 mc ms) (cw : CallW R s args own C index y bytes maxL ret wsC rm mc ms n)
    (hK : va_K D vwCl TY s) (hP : va_P D vwCl (wa ++ wb) H) (hD : va_D A (wa ++ wb)) (hS : va_S A s.heap H locs) (hA : ∀ q, s.heap.size ≤ q → A q) (hT : vST tz A s s.heap)
    (ci : Nat) {T0 : u_T} {N0 : Nat} {fs : List Value} (hc : vwCl[ci]? = some (C, T0, N0)) (he : wb[0]? = some (b, .inr (ci, fs))) (hst : st = As.reverse ++ .ref b :: rest) (hlen : As.length = n) (hsize : ls.size = nL) (hW : (rest.map fun v => v.category).sum ≤ 8) (hdg : decode cc pc = .ok (.invokevirtual index, 3)) (hf : cells + mc ≤ R.cells ∧ slots + ms ≤ R.slots)
    (kk : ∀ (u : S) (H1 : Heap) (locs1 : List Loc), post u → va_P D vwCl (wa ++ w1 u) H1 → va_D A (wa ++ w1 u) → va_S A s.heap H1 locs1 → W p l e R s m args below meth c H1 locs1 (cells + mc) (slots + ms) Q (F0 m (pc + 3) ls (rest))) :
    W p l e R s m args below meth c H locs cells slots Q (F0 m pc ls st) := by
  subst hst
  obtain ⟨hF, hPre, hPh⟩ := h_M hK hP hD hS hA hT
  refine va_callv (va_runV (As := As) (rest := rest) F (hM H.size) cw ⟨vPr.blind, va_recv hK hPh hc he, fun U hU hW => ⟨rfl, hPre U hU hW⟩⟩ rfl hlen hsize rfl (lv_room hW) hdg hf) hS (fun q _ h => hF q h) hF (fun u t H1 locs1 ht hvm hw hB hz1 hk1 hS1 => ?_)
  obtain ⟨hP1, hD1⟩ := hB
  rw [ht] at hP1
  obtain ⟨hP2, hD2⟩ := j_M hP hD hF hk1 hP1 hD1
  exact kk u H1 locs1 hw hP2 hD2 hS1
theorem vM_C {post : S → Prop} (F : CallFix p m c cc nL s args Ts own) (hM : MV l y wsC rm D TY tz (.ref b :: As) wb post w1 mc ms) (cw : CallB R s args own index y bytes maxL none wsC rm mc ms n ∧ y.name = "<init>" ∧ (Cond.instanceMethod y).before args s = true)
    (hK : va_K D vwCl TY s) (hP : va_P D vwCl (wa ++ wb) H) (hD : va_D A (wa ++ wb)) (hS : va_S A s.heap H locs) (hA : ∀ q, s.heap.size ≤ q → A q) (hT : vST tz A s s.heap)
    (hst : st = As.reverse ++ .ref b :: rest) (hlen : As.length = n) (hsize : ls.size = nL) (hW : (rest.map fun v => v.category).sum ≤ 8) (hdg : decode cc pc = .ok (.invokespecial index, 3)) (hf : cells + mc ≤ R.cells ∧ slots + ms ≤ R.slots)
    (kk : ∀ (u : S) (H1 : Heap) (locs1 : List Loc), post u → va_P D vwCl (wa ++ w1 u) H1 → va_D A (wa ++ w1 u) → va_S A s.heap H1 locs1 → W p l e R s m args below meth c H1 locs1 (cells + mc) (slots + ms) Q (F0 m (pc + 3) ls (rest))) :
    W p l e R s m args below meth c H locs cells slots Q (F0 m pc ls st) := by
  subst hst
  obtain ⟨hF, hPre, hPh⟩ := h_M hK hP hD hS hA hT
  refine va_callv (va_runI (As := As) (rest := rest) F (hM H.size) cw ⟨vPr.blind, fun U hU hW => ⟨rfl, hPre U hU hW⟩⟩ rfl hlen hsize rfl (lv_room hW) hdg hf) hS (fun q _ h => hF q h) hF (fun u t H1 locs1 ht hvm hw hB hz1 hk1 hS1 => ?_)
  obtain ⟨hP1, hD1⟩ := hB
  rw [ht] at hP1
  obtain ⟨hP2, hD2⟩ := j_M hP hD hF hk1 hP1 hD1
  exact kk u H1 locs1 hw hP2 hD2 hS1
end HV
