set_option maxHeartbeats 4000000 in
set_option maxRecDepth 100000 in
theorem lawc_0 {p : Program} {l : Launch} {e : Env} {s : State} {m : MethodId} {below : List Frame} {meth : Method} {c : Code} {D : va_G} {cB cI cJ cZ cR : ClassId} {tz b L : Nat} {sc : Nat → Int32} {A : Nat → Prop} (C0 : lw_At p s m meth c b L sc) (hA : ∀ q, s.heap.size ≤ q → A q) (hbA : ¬ A b) (hK : va_K D vwCl (vTy cB cI cJ cZ cR) s) (hT : vST tz A s s.heap) (q hq q2 : Nat → Nat) (x : XS) (y : MS) (i3 : Int32) (hi : ∀ d, d < 7 → vp_in (i3 + nI d) L) (bud cells slots : Nat) (hcs : cells + 1 ≤ 600000 ∧ slots + bud ≤ 7302250) (Z : XS → MS → Prop) (h : wpL_0 x y (sc ((i3 + (1 : Int32)).toNatClampNeg)) bud Z)
    (hn : ∀ (x9 : XS) (y9 : MS) (H : Heap) (locs : List Loc) (ls : Array Slot), Z x9 y9 → va_P D vwCl (WX q hq cB cI cJ cZ cR x9 ++ WM q2 hq cB cI cJ cZ cR y9) H → va_D A (WX q hq cB cI cJ cZ cR x9 ++ WM q2 hq cB cI cJ cZ cR y9) → va_S A s.heap H locs → lv_has ls 4 [(0, .ref b), (1, .ref (q 0)), (2, .ref (q2 0)), (3, .int i3)] → W p l e room_1 s m #[Value.ref b] below meth c H locs (cells + 1) (slots + bud) (lw_Z below #[Value.ref b] s) (F0 m 993 ls []))
    (H : Heap) (locs : List Loc) (ls : Array Slot) (hP : va_P D vwCl (WX q hq cB cI cJ cZ cR x ++ WM q2 hq cB cI cJ cZ cR y) H) (hD : va_D A (WX q hq cB cI cJ cZ cR x ++ WM q2 hq cB cI cJ cZ cR y)) (hS : va_S A s.heap H locs) (hl : lv_has ls 4 [(0, .ref b), (1, .ref (q 0)), (2, .ref (q2 0)), (3, .int i3)]) : W p l e room_1 s m #[Value.ref b] below meth c H locs cells slots (lw_Z below #[Value.ref b] s) (F0 m 168 ls []) := by
  obtain ⟨hx, hb, hr, hml, hown, hts0, hX, hbl, hlocks, hgv⟩ := C0
  have hts : ∀ w ∈ wsL_law, w.before #[Value.ref b] s = true := fun w hw => hts0 w (wsL_law_in w hw)
  have hown : s.vm.findClass RL = some m.cls := hown
  unfold wpL_0 at h
  refine lv_aload_n hx hb dL_law_168 rfl (lv_at hl 1 rfl) ?_
  refine lv_aload_n hx hb dL_law_169 rfl (lv_at hl 0 rfl) ?_
  refine lv_iload_n hx hb dL_law_170 rfl (lv_at hl 3 rfl) ?_
  refine lv_iconst (v := 1) hx hb dL_law_171 (by decide) ?_
  refine lv_iadd hx hb dL_law_172 ?_
  refine va_sld hx hb hX hbl hbA hS (hi 1 (by decide)) dL_law_173 ?_
  refine vX_I (As := [.int (sc ((i3 + (1 : Int32)).toNatClampNeg))]) (rest := []) ⟨hx, hb, hml, hown, hts⟩ (fX6_factors l D cB cI cJ cZ cR tz q hq x (sc ((i3 + (1 : Int32)).toNatClampNeg)) (fun r9 x9 => wpM_0 y (sc ((i3 + (1 : Int32)).toNatClampNeg)) r9 (Z x9)) h) (cwV 1 hts gL_law_X6_factors rfl rfl rfl hdX6_factors ⟨Nat.le_of_ble_eq_true rfl, Nat.le_of_ble_eq_true rfl⟩) hK hP hD hS hA hT 6 rfl rfl rfl rfl hl.1 (Nat.le_of_ble_eq_true rfl) dL_law_174 ⟨(show cells + 0 ≤ 600000 by omega), (show slots + 0 ≤ 7302250 by omega)⟩ (fun r1 x1 H locs h hP hD hS => ?_)
  refine lv_aload_n hx hb dL_law_177 rfl (lv_at hl 2 rfl) ?_
  refine lv_aload_n hx hb dL_law_178 rfl (lv_at hl 0 rfl) ?_
  refine lv_iload_n hx hb dL_law_179 rfl (lv_at hl 3 rfl) ?_
  refine lv_iconst (v := 1) hx hb dL_law_180 (by decide) ?_
  refine lv_iadd hx hb dL_law_181 ?_
  refine va_sld hx hb hX hbl hbA hS (hi 1 (by decide)) dL_law_182 ?_
  unfold wpM_0 at h
  refine vM_I (As := [.int (sc ((i3 + (1 : Int32)).toNatClampNeg))]) (rest := [.int r1]) ⟨hx, hb, hml, hown, hts⟩ (fX7_factors l D cB cI cJ cZ cR tz q2 hq y (sc ((i3 + (1 : Int32)).toNatClampNeg)) (fun r9 y9 => ((r1 = r9) → (Z x1 y9)) ∧ (¬ (r1 = r9) → False)) h) (cwV 1 hts gL_law_X7_factors rfl rfl rfl hdX7_factors ⟨Nat.le_of_ble_eq_true rfl, Nat.le_of_ble_eq_true rfl⟩) hK hP hD hS hA hT 7 rfl rfl rfl rfl hl.1 (Nat.le_of_ble_eq_true rfl) dL_law_183 ⟨(show cells + 0 + 0 ≤ 600000 by omega), (show slots + 0 + 0 ≤ 7302250 by omega)⟩ (fun r2 y1 H locs h hP hD hS => ?_)
  obtain ⟨hp9, hn9⟩ := h
  refine lv_icmp_eq (tgt := 993) hx hb dL_law_186 (by decide) (fun hc => ?_) (fun hc => (hn9 hc).elim)
  have h := hp9 hc
  refine W.widen (k := cells + 1) (n := slots + bud) (by omega) (by omega) ?_
  exact hn x1 y1 _ _ _ h hP hD hS hl
set_option maxHeartbeats 4000000 in
set_option maxRecDepth 100000 in
theorem lawc_1 {p : Program} {l : Launch} {e : Env} {s : State} {m : MethodId} {below : List Frame} {meth : Method} {c : Code} {D : va_G} {cB cI cJ cZ cR : ClassId} {tz b L : Nat} {sc : Nat → Int32} {A : Nat → Prop} (C0 : lw_At p s m meth c b L sc) (hA : ∀ q, s.heap.size ≤ q → A q) (hbA : ¬ A b) (hK : va_K D vwCl (vTy cB cI cJ cZ cR) s) (hT : vST tz A s s.heap) (q hq q2 : Nat → Nat) (x : XS) (y : MS) (i3 : Int32) (hi : ∀ d, d < 7 → vp_in (i3 + nI d) L) (bud cells slots : Nat) (hcs : cells + 1 ≤ 600000 ∧ slots + bud ≤ 7302250) (Z : XS → MS → Prop) (h : wpL_1 x y (sc ((i3 + (1 : Int32)).toNatClampNeg)) bud Z)
    (hn : ∀ (x9 : XS) (y9 : MS) (H : Heap) (locs : List Loc) (ls : Array Slot), Z x9 y9 → va_P D vwCl (WX q hq cB cI cJ cZ cR x9 ++ WM q2 hq cB cI cJ cZ cR y9) H → va_D A (WX q hq cB cI cJ cZ cR x9 ++ WM q2 hq cB cI cJ cZ cR y9) → va_S A s.heap H locs → lv_has ls 4 [(0, .ref b), (1, .ref (q 0)), (2, .ref (q2 0)), (3, .int i3)] → W p l e room_1 s m #[Value.ref b] below meth c H locs (cells + 1) (slots + bud) (lw_Z below #[Value.ref b] s) (F0 m 993 ls []))
    (H : Heap) (locs : List Loc) (ls : Array Slot) (hP : va_P D vwCl (WX q hq cB cI cJ cZ cR x ++ WM q2 hq cB cI cJ cZ cR y) H) (hD : va_D A (WX q hq cB cI cJ cZ cR x ++ WM q2 hq cB cI cJ cZ cR y)) (hS : va_S A s.heap H locs) (hl : lv_has ls 4 [(0, .ref b), (1, .ref (q 0)), (2, .ref (q2 0)), (3, .int i3)]) : W p l e room_1 s m #[Value.ref b] below meth c H locs cells slots (lw_Z below #[Value.ref b] s) (F0 m 191 ls []) := by
  obtain ⟨hx, hb, hr, hml, hown, hts0, hX, hbl, hlocks, hgv⟩ := C0
  have hts : ∀ w ∈ wsL_law, w.before #[Value.ref b] s = true := fun w hw => hts0 w (wsL_law_in w hw)
  have hown : s.vm.findClass RL = some m.cls := hown
  unfold wpL_1 at h
  refine lv_aload_n hx hb dL_law_191 rfl (lv_at hl 1 rfl) ?_
  refine lv_aload_n hx hb dL_law_192 rfl (lv_at hl 0 rfl) ?_
  refine lv_iload_n hx hb dL_law_193 rfl (lv_at hl 3 rfl) ?_
  refine lv_iconst (v := 1) hx hb dL_law_194 (by decide) ?_
  refine lv_iadd hx hb dL_law_195 ?_
  refine va_sld hx hb hX hbl hbA hS (hi 1 (by decide)) dL_law_196 ?_
  refine vX_I (As := [.int (sc ((i3 + (1 : Int32)).toNatClampNeg))]) (rest := []) ⟨hx, hb, hml, hown, hts⟩ (fX6_term l D cB cI cJ cZ cR tz q hq x (sc ((i3 + (1 : Int32)).toNatClampNeg)) (fun r9 x9 => wpM_1 y (sc ((i3 + (1 : Int32)).toNatClampNeg)) r9 (Z x9)) h) (cwV 1 hts gL_law_X6_term rfl rfl rfl hdX6_term ⟨Nat.le_of_ble_eq_true rfl, Nat.le_of_ble_eq_true rfl⟩) hK hP hD hS hA hT 6 rfl rfl rfl rfl hl.1 (Nat.le_of_ble_eq_true rfl) dL_law_197 ⟨(show cells + 0 ≤ 600000 by omega), (show slots + 0 ≤ 7302250 by omega)⟩ (fun r1 x1 H locs h hP hD hS => ?_)
  refine lv_aload_n hx hb dL_law_200 rfl (lv_at hl 2 rfl) ?_
  refine lv_aload_n hx hb dL_law_201 rfl (lv_at hl 0 rfl) ?_
  refine lv_iload_n hx hb dL_law_202 rfl (lv_at hl 3 rfl) ?_
  refine lv_iconst (v := 1) hx hb dL_law_203 (by decide) ?_
  refine lv_iadd hx hb dL_law_204 ?_
  refine va_sld hx hb hX hbl hbA hS (hi 1 (by decide)) dL_law_205 ?_
  unfold wpM_1 at h
  refine vM_I (As := [.int (sc ((i3 + (1 : Int32)).toNatClampNeg))]) (rest := [.int r1]) ⟨hx, hb, hml, hown, hts⟩ (fX7_term l D cB cI cJ cZ cR tz q2 hq y (sc ((i3 + (1 : Int32)).toNatClampNeg)) (fun r9 y9 => ((r1 = r9) → (Z x1 y9)) ∧ (¬ (r1 = r9) → False)) h) (cwV 1 hts gL_law_X7_term rfl rfl rfl hdX7_term ⟨Nat.le_of_ble_eq_true rfl, Nat.le_of_ble_eq_true rfl⟩) hK hP hD hS hA hT 7 rfl rfl rfl rfl hl.1 (Nat.le_of_ble_eq_true rfl) dL_law_206 ⟨(show cells + 0 + 0 ≤ 600000 by omega), (show slots + 0 + 0 ≤ 7302250 by omega)⟩ (fun r2 y1 H locs h hP hD hS => ?_)
  obtain ⟨hp9, hn9⟩ := h
  refine lv_icmp_eq (tgt := 993) hx hb dL_law_209 (by decide) (fun hc => ?_) (fun hc => (hn9 hc).elim)
  have h := hp9 hc
  refine W.widen (k := cells + 1) (n := slots + bud) (by omega) (by omega) ?_
  exact hn x1 y1 _ _ _ h hP hD hS hl
set_option maxHeartbeats 4000000 in
set_option maxRecDepth 100000 in
theorem lawc_2 {p : Program} {l : Launch} {e : Env} {s : State} {m : MethodId} {below : List Frame} {meth : Method} {c : Code} {D : va_G} {cB cI cJ cZ cR : ClassId} {tz b L : Nat} {sc : Nat → Int32} {A : Nat → Prop} (C0 : lw_At p s m meth c b L sc) (hA : ∀ q, s.heap.size ≤ q → A q) (hbA : ¬ A b) (hK : va_K D vwCl (vTy cB cI cJ cZ cR) s) (hT : vST tz A s s.heap) (q hq q2 : Nat → Nat) (x : XS) (y : MS) (i3 : Int32) (hi : ∀ d, d < 7 → vp_in (i3 + nI d) L) (bud cells slots : Nat) (hcs : cells + 1 ≤ 600000 ∧ slots + bud ≤ 7302250) (Z : XS → MS → Prop) (h : wpL_2 x y (sc ((i3 + (1 : Int32)).toNatClampNeg)) bud Z)
    (hn : ∀ (x9 : XS) (y9 : MS) (H : Heap) (locs : List Loc) (ls : Array Slot), Z x9 y9 → va_P D vwCl (WX q hq cB cI cJ cZ cR x9 ++ WM q2 hq cB cI cJ cZ cR y9) H → va_D A (WX q hq cB cI cJ cZ cR x9 ++ WM q2 hq cB cI cJ cZ cR y9) → va_S A s.heap H locs → lv_has ls 4 [(0, .ref b), (1, .ref (q 0)), (2, .ref (q2 0)), (3, .int i3)] → W p l e room_1 s m #[Value.ref b] below meth c H locs (cells + 1) (slots + bud) (lw_Z below #[Value.ref b] s) (F0 m 993 ls []))
    (H : Heap) (locs : List Loc) (ls : Array Slot) (hP : va_P D vwCl (WX q hq cB cI cJ cZ cR x ++ WM q2 hq cB cI cJ cZ cR y) H) (hD : va_D A (WX q hq cB cI cJ cZ cR x ++ WM q2 hq cB cI cJ cZ cR y)) (hS : va_S A s.heap H locs) (hl : lv_has ls 4 [(0, .ref b), (1, .ref (q 0)), (2, .ref (q2 0)), (3, .int i3)]) : W p l e room_1 s m #[Value.ref b] below meth c H locs cells slots (lw_Z below #[Value.ref b] s) (F0 m 214 ls []) := by
  obtain ⟨hx, hb, hr, hml, hown, hts0, hX, hbl, hlocks, hgv⟩ := C0
  have hts : ∀ w ∈ wsL_law, w.before #[Value.ref b] s = true := fun w hw => hts0 w (wsL_law_in w hw)
  have hown : s.vm.findClass RL = some m.cls := hown
  unfold wpL_2 at h
  refine lv_aload_n hx hb dL_law_214 rfl (lv_at hl 1 rfl) ?_
  refine lv_aload_n hx hb dL_law_215 rfl (lv_at hl 0 rfl) ?_
  refine lv_iload_n hx hb dL_law_216 rfl (lv_at hl 3 rfl) ?_
  refine lv_iconst (v := 1) hx hb dL_law_217 (by decide) ?_
  refine lv_iadd hx hb dL_law_218 ?_
  refine va_sld hx hb hX hbl hbA hS (hi 1 (by decide)) dL_law_219 ?_
  refine vX_I (As := [.int (sc ((i3 + (1 : Int32)).toNatClampNeg))]) (rest := []) ⟨hx, hb, hml, hown, hts⟩ (fX6_drop l D cB cI cJ cZ cR tz q hq x (sc ((i3 + (1 : Int32)).toNatClampNeg)) (fun r9 x9 => wpM_2 y (sc ((i3 + (1 : Int32)).toNatClampNeg)) r9 (Z x9)) h) (cwV 1 hts gL_law_X6_drop rfl rfl rfl hdX6_drop ⟨Nat.le_of_ble_eq_true rfl, Nat.le_of_ble_eq_true rfl⟩) hK hP hD hS hA hT 6 rfl rfl rfl rfl hl.1 (Nat.le_of_ble_eq_true rfl) dL_law_220 ⟨(show cells + 0 ≤ 600000 by omega), (show slots + 0 ≤ 7302250 by omega)⟩ (fun r1 x1 H locs h hP hD hS => ?_)
  refine lv_aload_n hx hb dL_law_223 rfl (lv_at hl 2 rfl) ?_
  refine lv_aload_n hx hb dL_law_224 rfl (lv_at hl 0 rfl) ?_
  refine lv_iload_n hx hb dL_law_225 rfl (lv_at hl 3 rfl) ?_
  refine lv_iconst (v := 1) hx hb dL_law_226 (by decide) ?_
  refine lv_iadd hx hb dL_law_227 ?_
  refine va_sld hx hb hX hbl hbA hS (hi 1 (by decide)) dL_law_228 ?_
  unfold wpM_2 at h
  refine vM_I (As := [.int (sc ((i3 + (1 : Int32)).toNatClampNeg))]) (rest := [.int r1]) ⟨hx, hb, hml, hown, hts⟩ (fX7_drop l D cB cI cJ cZ cR tz q2 hq y (sc ((i3 + (1 : Int32)).toNatClampNeg)) (fun r9 y9 => ((r1 = r9) → (Z x1 y9)) ∧ (¬ (r1 = r9) → False)) h) (cwV 1 hts gL_law_X7_drop rfl rfl rfl hdX7_drop ⟨Nat.le_of_ble_eq_true rfl, Nat.le_of_ble_eq_true rfl⟩) hK hP hD hS hA hT 7 rfl rfl rfl rfl hl.1 (Nat.le_of_ble_eq_true rfl) dL_law_229 ⟨(show cells + 0 + 0 ≤ 600000 by omega), (show slots + 0 + 0 ≤ 7302250 by omega)⟩ (fun r2 y1 H locs h hP hD hS => ?_)
  obtain ⟨hp9, hn9⟩ := h
  refine lv_icmp_eq (tgt := 993) hx hb dL_law_232 (by decide) (fun hc => ?_) (fun hc => (hn9 hc).elim)
  have h := hp9 hc
  refine W.widen (k := cells + 1) (n := slots + bud) (by omega) (by omega) ?_
  exact hn x1 y1 _ _ _ h hP hD hS hl
set_option maxHeartbeats 4000000 in
set_option maxRecDepth 100000 in
theorem lawc_3 {p : Program} {l : Launch} {e : Env} {s : State} {m : MethodId} {below : List Frame} {meth : Method} {c : Code} {D : va_G} {cB cI cJ cZ cR : ClassId} {tz b L : Nat} {sc : Nat → Int32} {A : Nat → Prop} (C0 : lw_At p s m meth c b L sc) (hA : ∀ q, s.heap.size ≤ q → A q) (hbA : ¬ A b) (hK : va_K D vwCl (vTy cB cI cJ cZ cR) s) (hT : vST tz A s s.heap) (q hq q2 : Nat → Nat) (x : XS) (y : MS) (i3 : Int32) (hi : ∀ d, d < 7 → vp_in (i3 + nI d) L) (bud cells slots : Nat) (hcs : cells + 1 ≤ 600000 ∧ slots + bud ≤ 7302250) (Z : XS → MS → Prop) (h : wpL_3 x y (sc ((i3 + (1 : Int32)).toNatClampNeg)) (sc ((i3 + (2 : Int32)).toNatClampNeg)) bud Z)
    (hn : ∀ (x9 : XS) (y9 : MS) (H : Heap) (locs : List Loc) (ls : Array Slot), Z x9 y9 → va_P D vwCl (WX q hq cB cI cJ cZ cR x9 ++ WM q2 hq cB cI cJ cZ cR y9) H → va_D A (WX q hq cB cI cJ cZ cR x9 ++ WM q2 hq cB cI cJ cZ cR y9) → va_S A s.heap H locs → lv_has ls 4 [(0, .ref b), (1, .ref (q 0)), (2, .ref (q2 0)), (3, .int i3)] → W p l e room_1 s m #[Value.ref b] below meth c H locs (cells + 1) (slots + bud) (lw_Z below #[Value.ref b] s) (F0 m 993 ls []))
    (H : Heap) (locs : List Loc) (ls : Array Slot) (hP : va_P D vwCl (WX q hq cB cI cJ cZ cR x ++ WM q2 hq cB cI cJ cZ cR y) H) (hD : va_D A (WX q hq cB cI cJ cZ cR x ++ WM q2 hq cB cI cJ cZ cR y)) (hS : va_S A s.heap H locs) (hl : lv_has ls 4 [(0, .ref b), (1, .ref (q 0)), (2, .ref (q2 0)), (3, .int i3)]) : W p l e room_1 s m #[Value.ref b] below meth c H locs cells slots (lw_Z below #[Value.ref b] s) (F0 m 237 ls []) := by
  obtain ⟨hx, hb, hr, hml, hown, hts0, hX, hbl, hlocks, hgv⟩ := C0
  have hts : ∀ w ∈ wsL_law, w.before #[Value.ref b] s = true := fun w hw => hts0 w (wsL_law_in w hw)
  have hown : s.vm.findClass RL = some m.cls := hown
  unfold wpL_3 at h
  refine lv_aload_n hx hb dL_law_237 rfl (lv_at hl 1 rfl) ?_
  refine lv_aload_n hx hb dL_law_238 rfl (lv_at hl 0 rfl) ?_
  refine lv_iload_n hx hb dL_law_239 rfl (lv_at hl 3 rfl) ?_
  refine lv_iconst (v := 1) hx hb dL_law_240 (by decide) ?_
  refine lv_iadd hx hb dL_law_241 ?_
  refine va_sld hx hb hX hbl hbA hS (hi 1 (by decide)) dL_law_242 ?_
  refine lv_aload_n hx hb dL_law_243 rfl (lv_at hl 0 rfl) ?_
  refine lv_iload_n hx hb dL_law_244 rfl (lv_at hl 3 rfl) ?_
  refine lv_iconst (v := 2) hx hb dL_law_245 (by decide) ?_
  refine lv_iadd hx hb dL_law_246 ?_
  refine va_sld hx hb hX hbl hbA hS (hi 2 (by decide)) dL_law_247 ?_
  refine vX_I (As := [.int (sc ((i3 + (1 : Int32)).toNatClampNeg)), .int (sc ((i3 + (2 : Int32)).toNatClampNeg))]) (rest := []) ⟨hx, hb, hml, hown, hts⟩ (fX6_plan l D cB cI cJ cZ cR tz q hq x (sc ((i3 + (1 : Int32)).toNatClampNeg)) (sc ((i3 + (2 : Int32)).toNatClampNeg)) (fun r9 x9 => wpM_3 y (sc ((i3 + (1 : Int32)).toNatClampNeg)) (sc ((i3 + (2 : Int32)).toNatClampNeg)) r9 (Z x9)) h) (cwV 2 hts gL_law_X6_plan rfl rfl rfl hdX6_plan ⟨Nat.le_of_ble_eq_true rfl, Nat.le_of_ble_eq_true rfl⟩) hK hP hD hS hA hT 6 rfl rfl rfl rfl hl.1 (Nat.le_of_ble_eq_true rfl) dL_law_248 ⟨(show cells + 0 ≤ 600000 by omega), (show slots + 0 ≤ 7302250 by omega)⟩ (fun r1 x1 H locs h hP hD hS => ?_)
  refine lv_aload_n hx hb dL_law_251 rfl (lv_at hl 2 rfl) ?_
  refine lv_aload_n hx hb dL_law_252 rfl (lv_at hl 0 rfl) ?_
  refine lv_iload_n hx hb dL_law_253 rfl (lv_at hl 3 rfl) ?_
  refine lv_iconst (v := 1) hx hb dL_law_254 (by decide) ?_
  refine lv_iadd hx hb dL_law_255 ?_
  refine va_sld hx hb hX hbl hbA hS (hi 1 (by decide)) dL_law_256 ?_
  refine lv_aload_n hx hb dL_law_257 rfl (lv_at hl 0 rfl) ?_
  refine lv_iload_n hx hb dL_law_258 rfl (lv_at hl 3 rfl) ?_
  refine lv_iconst (v := 2) hx hb dL_law_259 (by decide) ?_
  refine lv_iadd hx hb dL_law_260 ?_
  refine va_sld hx hb hX hbl hbA hS (hi 2 (by decide)) dL_law_261 ?_
  unfold wpM_3 at h
  refine vM_I (As := [.int (sc ((i3 + (1 : Int32)).toNatClampNeg)), .int (sc ((i3 + (2 : Int32)).toNatClampNeg))]) (rest := [.int r1]) ⟨hx, hb, hml, hown, hts⟩ (fX7_plan l D cB cI cJ cZ cR tz q2 hq y (sc ((i3 + (1 : Int32)).toNatClampNeg)) (sc ((i3 + (2 : Int32)).toNatClampNeg)) (fun r9 y9 => ((r1 = r9) → (Z x1 y9)) ∧ (¬ (r1 = r9) → False)) h) (cwV 2 hts gL_law_X7_plan rfl rfl rfl hdX7_plan ⟨Nat.le_of_ble_eq_true rfl, Nat.le_of_ble_eq_true rfl⟩) hK hP hD hS hA hT 7 rfl rfl rfl rfl hl.1 (Nat.le_of_ble_eq_true rfl) dL_law_262 ⟨(show cells + 0 + 0 ≤ 600000 by omega), (show slots + 0 + 0 ≤ 7302250 by omega)⟩ (fun r2 y1 H locs h hP hD hS => ?_)
  obtain ⟨hp9, hn9⟩ := h
  refine lv_icmp_eq (tgt := 993) hx hb dL_law_265 (by decide) (fun hc => ?_) (fun hc => (hn9 hc).elim)
  have h := hp9 hc
  refine W.widen (k := cells + 1) (n := slots + bud) (by omega) (by omega) ?_
  exact hn x1 y1 _ _ _ h hP hD hS hl
set_option maxHeartbeats 4000000 in
set_option maxRecDepth 100000 in
theorem lawc_4 {p : Program} {l : Launch} {e : Env} {s : State} {m : MethodId} {below : List Frame} {meth : Method} {c : Code} {D : va_G} {cB cI cJ cZ cR : ClassId} {tz b L : Nat} {sc : Nat → Int32} {A : Nat → Prop} (C0 : lw_At p s m meth c b L sc) (hA : ∀ q, s.heap.size ≤ q → A q) (hbA : ¬ A b) (hK : va_K D vwCl (vTy cB cI cJ cZ cR) s) (hT : vST tz A s s.heap) (q hq q2 : Nat → Nat) (x : XS) (y : MS) (i3 : Int32) (hi : ∀ d, d < 7 → vp_in (i3 + nI d) L) (bud cells slots : Nat) (hcs : cells + 1 ≤ 600000 ∧ slots + bud ≤ 7302250) (Z : XS → MS → Prop) (h : wpL_4 x y  bud Z)
    (hn : ∀ (x9 : XS) (y9 : MS) (H : Heap) (locs : List Loc) (ls : Array Slot), Z x9 y9 → va_P D vwCl (WX q hq cB cI cJ cZ cR x9 ++ WM q2 hq cB cI cJ cZ cR y9) H → va_D A (WX q hq cB cI cJ cZ cR x9 ++ WM q2 hq cB cI cJ cZ cR y9) → va_S A s.heap H locs → lv_has ls 4 [(0, .ref b), (1, .ref (q 0)), (2, .ref (q2 0)), (3, .int i3)] → W p l e room_1 s m #[Value.ref b] below meth c H locs (cells + 1) (slots + bud) (lw_Z below #[Value.ref b] s) (F0 m 993 ls []))
    (H : Heap) (locs : List Loc) (ls : Array Slot) (hP : va_P D vwCl (WX q hq cB cI cJ cZ cR x ++ WM q2 hq cB cI cJ cZ cR y) H) (hD : va_D A (WX q hq cB cI cJ cZ cR x ++ WM q2 hq cB cI cJ cZ cR y)) (hS : va_S A s.heap H locs) (hl : lv_has ls 4 [(0, .ref b), (1, .ref (q 0)), (2, .ref (q2 0)), (3, .int i3)]) : W p l e room_1 s m #[Value.ref b] below meth c H locs cells slots (lw_Z below #[Value.ref b] s) (F0 m 270 ls []) := by
  obtain ⟨hx, hb, hr, hml, hown, hts0, hX, hbl, hlocks, hgv⟩ := C0
  have hts : ∀ w ∈ wsL_law, w.before #[Value.ref b] s = true := fun w hw => hts0 w (wsL_law_in w hw)
  have hown : s.vm.findClass RL = some m.cls := hown
  unfold wpL_4 at h
  refine lv_aload_n hx hb dL_law_270 rfl (lv_at hl 1 rfl) ?_
  refine vX_V (As := []) (rest := []) ⟨hx, hb, hml, hown, hts⟩ (fX6_clear l D cB cI cJ cZ cR tz q hq x  (fun x9 => wpM_4 y  (Z x9)) h) (cwV 0 hts gL_law_X6_clear rfl rfl rfl hdX6_clear ⟨Nat.le_of_ble_eq_true rfl, Nat.le_of_ble_eq_true rfl⟩) hK hP hD hS hA hT 6 rfl rfl rfl rfl hl.1 (Nat.le_of_ble_eq_true rfl) dL_law_271 ⟨(show cells + 0 ≤ 600000 by omega), (show slots + 0 ≤ 7302250 by omega)⟩ (fun x1 H locs h hP hD hS => ?_)
  refine lv_aload_n hx hb dL_law_274 rfl (lv_at hl 2 rfl) ?_
  unfold wpM_4 at h
  refine vM_V (As := []) (rest := []) ⟨hx, hb, hml, hown, hts⟩ (fX7_clear l D cB cI cJ cZ cR tz q2 hq y  (fun y9 => Z x1 y9) h) (cwV 0 hts gL_law_X7_clear rfl rfl rfl hdX7_clear ⟨Nat.le_of_ble_eq_true rfl, Nat.le_of_ble_eq_true rfl⟩) hK hP hD hS hA hT 7 rfl rfl rfl rfl hl.1 (Nat.le_of_ble_eq_true rfl) dL_law_275 ⟨(show cells + 0 + 0 ≤ 600000 by omega), (show slots + 0 + 0 ≤ 7302250 by omega)⟩ (fun y1 H locs h hP hD hS => ?_)
  refine lv_goto (tgt := 993) hx hb dL_law_278 (by decide) ?_
  refine W.widen (k := cells + 1) (n := slots + bud) (by omega) (by omega) ?_
  exact hn x1 y1 _ _ _ h hP hD hS hl
set_option maxHeartbeats 4000000 in
set_option maxRecDepth 100000 in
theorem lawc_5 {p : Program} {l : Launch} {e : Env} {s : State} {m : MethodId} {below : List Frame} {meth : Method} {c : Code} {D : va_G} {cB cI cJ cZ cR : ClassId} {tz b L : Nat} {sc : Nat → Int32} {A : Nat → Prop} (C0 : lw_At p s m meth c b L sc) (hA : ∀ q, s.heap.size ≤ q → A q) (hbA : ¬ A b) (hK : va_K D vwCl (vTy cB cI cJ cZ cR) s) (hT : vST tz A s s.heap) (q hq q2 : Nat → Nat) (x : XS) (y : MS) (i3 : Int32) (hi : ∀ d, d < 7 → vp_in (i3 + nI d) L) (bud cells slots : Nat) (hcs : cells + 1 ≤ 600000 ∧ slots + bud ≤ 7302250) (Z : XS → MS → Prop) (h : wpL_5 x y (sc ((i3 + (1 : Int32)).toNatClampNeg)) bud Z)
    (hn : ∀ (x9 : XS) (y9 : MS) (H : Heap) (locs : List Loc) (ls : Array Slot), Z x9 y9 → va_P D vwCl (WX q hq cB cI cJ cZ cR x9 ++ WM q2 hq cB cI cJ cZ cR y9) H → va_D A (WX q hq cB cI cJ cZ cR x9 ++ WM q2 hq cB cI cJ cZ cR y9) → va_S A s.heap H locs → lv_has ls 4 [(0, .ref b), (1, .ref (q 0)), (2, .ref (q2 0)), (3, .int i3)] → W p l e room_1 s m #[Value.ref b] below meth c H locs (cells + 1) (slots + bud) (lw_Z below #[Value.ref b] s) (F0 m 993 ls []))
    (H : Heap) (locs : List Loc) (ls : Array Slot) (hP : va_P D vwCl (WX q hq cB cI cJ cZ cR x ++ WM q2 hq cB cI cJ cZ cR y) H) (hD : va_D A (WX q hq cB cI cJ cZ cR x ++ WM q2 hq cB cI cJ cZ cR y)) (hS : va_S A s.heap H locs) (hl : lv_has ls 4 [(0, .ref b), (1, .ref (q 0)), (2, .ref (q2 0)), (3, .int i3)]) : W p l e room_1 s m #[Value.ref b] below meth c H locs cells slots (lw_Z below #[Value.ref b] s) (F0 m 281 ls []) := by
  obtain ⟨hx, hb, hr, hml, hown, hts0, hX, hbl, hlocks, hgv⟩ := C0
  have hts : ∀ w ∈ wsL_law, w.before #[Value.ref b] s = true := fun w hw => hts0 w (wsL_law_in w hw)
  have hown : s.vm.findClass RL = some m.cls := hown
  unfold wpL_5 at h
  refine lv_aload_n hx hb dL_law_281 rfl (lv_at hl 1 rfl) ?_
  refine lv_aload_n hx hb dL_law_282 rfl (lv_at hl 0 rfl) ?_
  refine lv_iload_n hx hb dL_law_283 rfl (lv_at hl 3 rfl) ?_
  refine lv_iconst (v := 1) hx hb dL_law_284 (by decide) ?_
  refine lv_iadd hx hb dL_law_285 ?_
  refine va_sld hx hb hX hbl hbA hS (hi 1 (by decide)) dL_law_286 ?_
  refine vX_I (As := [.int (sc ((i3 + (1 : Int32)).toNatClampNeg))]) (rest := []) ⟨hx, hb, hml, hown, hts⟩ (fX6_about l D cB cI cJ cZ cR tz q hq x (sc ((i3 + (1 : Int32)).toNatClampNeg)) (fun r9 x9 => wpM_5 y (sc ((i3 + (1 : Int32)).toNatClampNeg)) r9 (Z x9)) h) (cwV 1 hts gL_law_X6_about rfl rfl rfl hdX6_about ⟨Nat.le_of_ble_eq_true rfl, Nat.le_of_ble_eq_true rfl⟩) hK hP hD hS hA hT 6 rfl rfl rfl rfl hl.1 (Nat.le_of_ble_eq_true rfl) dL_law_287 ⟨(show cells + 0 ≤ 600000 by omega), (show slots + 0 ≤ 7302250 by omega)⟩ (fun r1 x1 H locs h hP hD hS => ?_)
  refine lv_aload_n hx hb dL_law_290 rfl (lv_at hl 2 rfl) ?_
  refine lv_aload_n hx hb dL_law_291 rfl (lv_at hl 0 rfl) ?_
  refine lv_iload_n hx hb dL_law_292 rfl (lv_at hl 3 rfl) ?_
  refine lv_iconst (v := 1) hx hb dL_law_293 (by decide) ?_
  refine lv_iadd hx hb dL_law_294 ?_
  refine va_sld hx hb hX hbl hbA hS (hi 1 (by decide)) dL_law_295 ?_
  unfold wpM_5 at h
  refine vM_I (As := [.int (sc ((i3 + (1 : Int32)).toNatClampNeg))]) (rest := [.int r1]) ⟨hx, hb, hml, hown, hts⟩ (fX7_about l D cB cI cJ cZ cR tz q2 hq y (sc ((i3 + (1 : Int32)).toNatClampNeg)) (fun r9 y9 => ((r1 = r9) → (Z x1 y9)) ∧ (¬ (r1 = r9) → False)) h) (cwV 1 hts gL_law_X7_about rfl rfl rfl hdX7_about ⟨Nat.le_of_ble_eq_true rfl, Nat.le_of_ble_eq_true rfl⟩) hK hP hD hS hA hT 7 rfl rfl rfl rfl hl.1 (Nat.le_of_ble_eq_true rfl) dL_law_296 ⟨(show cells + 0 + 0 ≤ 600000 by omega), (show slots + 0 + 0 ≤ 7302250 by omega)⟩ (fun r2 y1 H locs h hP hD hS => ?_)
  obtain ⟨hp9, hn9⟩ := h
  refine lv_icmp_eq (tgt := 993) hx hb dL_law_299 (by decide) (fun hc => ?_) (fun hc => (hn9 hc).elim)
  have h := hp9 hc
  refine W.widen (k := cells + 1) (n := slots + bud) (by omega) (by omega) ?_
  exact hn x1 y1 _ _ _ h hP hD hS hl
set_option maxHeartbeats 4000000 in
set_option maxRecDepth 100000 in
theorem lawc_6 {p : Program} {l : Launch} {e : Env} {s : State} {m : MethodId} {below : List Frame} {meth : Method} {c : Code} {D : va_G} {cB cI cJ cZ cR : ClassId} {tz b L : Nat} {sc : Nat → Int32} {A : Nat → Prop} (C0 : lw_At p s m meth c b L sc) (hA : ∀ q, s.heap.size ≤ q → A q) (hbA : ¬ A b) (hK : va_K D vwCl (vTy cB cI cJ cZ cR) s) (hT : vST tz A s s.heap) (q hq q2 : Nat → Nat) (x : XS) (y : MS) (i3 : Int32) (hi : ∀ d, d < 7 → vp_in (i3 + nI d) L) (bud cells slots : Nat) (hcs : cells + 1 ≤ 600000 ∧ slots + bud ≤ 7302250) (Z : XS → MS → Prop) (h : wpL_6 x y (sc ((i3 + (1 : Int32)).toNatClampNeg)) (sc ((i3 + (2 : Int32)).toNatClampNeg)) bud Z)
    (hn : ∀ (x9 : XS) (y9 : MS) (H : Heap) (locs : List Loc) (ls : Array Slot), Z x9 y9 → va_P D vwCl (WX q hq cB cI cJ cZ cR x9 ++ WM q2 hq cB cI cJ cZ cR y9) H → va_D A (WX q hq cB cI cJ cZ cR x9 ++ WM q2 hq cB cI cJ cZ cR y9) → va_S A s.heap H locs → lv_has ls 4 [(0, .ref b), (1, .ref (q 0)), (2, .ref (q2 0)), (3, .int i3)] → W p l e room_1 s m #[Value.ref b] below meth c H locs (cells + 1) (slots + bud) (lw_Z below #[Value.ref b] s) (F0 m 993 ls []))
    (H : Heap) (locs : List Loc) (ls : Array Slot) (hP : va_P D vwCl (WX q hq cB cI cJ cZ cR x ++ WM q2 hq cB cI cJ cZ cR y) H) (hD : va_D A (WX q hq cB cI cJ cZ cR x ++ WM q2 hq cB cI cJ cZ cR y)) (hS : va_S A s.heap H locs) (hl : lv_has ls 4 [(0, .ref b), (1, .ref (q 0)), (2, .ref (q2 0)), (3, .int i3)]) : W p l e room_1 s m #[Value.ref b] below meth c H locs cells slots (lw_Z below #[Value.ref b] s) (F0 m 304 ls []) := by
  obtain ⟨hx, hb, hr, hml, hown, hts0, hX, hbl, hlocks, hgv⟩ := C0
  have hts : ∀ w ∈ wsL_law, w.before #[Value.ref b] s = true := fun w hw => hts0 w (wsL_law_in w hw)
  have hown : s.vm.findClass RL = some m.cls := hown
  unfold wpL_6 at h
  refine lv_aload_n hx hb dL_law_304 rfl (lv_at hl 1 rfl) ?_
  refine lv_aload_n hx hb dL_law_305 rfl (lv_at hl 0 rfl) ?_
  refine lv_iload_n hx hb dL_law_306 rfl (lv_at hl 3 rfl) ?_
  refine lv_iconst (v := 1) hx hb dL_law_307 (by decide) ?_
  refine lv_iadd hx hb dL_law_308 ?_
  refine va_sld hx hb hX hbl hbA hS (hi 1 (by decide)) dL_law_309 ?_
  refine lv_aload_n hx hb dL_law_310 rfl (lv_at hl 0 rfl) ?_
  refine lv_iload_n hx hb dL_law_311 rfl (lv_at hl 3 rfl) ?_
  refine lv_iconst (v := 2) hx hb dL_law_312 (by decide) ?_
  refine lv_iadd hx hb dL_law_313 ?_
  refine va_sld hx hb hX hbl hbA hS (hi 2 (by decide)) dL_law_314 ?_
  refine vX_I (As := [.int (sc ((i3 + (1 : Int32)).toNatClampNeg)), .int (sc ((i3 + (2 : Int32)).toNatClampNeg))]) (rest := []) ⟨hx, hb, hml, hown, hts⟩ (fX6_mark l D cB cI cJ cZ cR tz q hq x (sc ((i3 + (1 : Int32)).toNatClampNeg)) (sc ((i3 + (2 : Int32)).toNatClampNeg)) (fun r9 x9 => wpM_6 y (sc ((i3 + (1 : Int32)).toNatClampNeg)) (sc ((i3 + (2 : Int32)).toNatClampNeg)) r9 (Z x9)) h) (cwV 2 hts gL_law_X6_mark rfl rfl rfl hdX6_mark ⟨Nat.le_of_ble_eq_true rfl, Nat.le_of_ble_eq_true rfl⟩) hK hP hD hS hA hT 6 rfl rfl rfl rfl hl.1 (Nat.le_of_ble_eq_true rfl) dL_law_315 ⟨(show cells + 0 ≤ 600000 by omega), (show slots + 0 ≤ 7302250 by omega)⟩ (fun r1 x1 H locs h hP hD hS => ?_)
  refine lv_aload_n hx hb dL_law_318 rfl (lv_at hl 2 rfl) ?_
  refine lv_aload_n hx hb dL_law_319 rfl (lv_at hl 0 rfl) ?_
  refine lv_iload_n hx hb dL_law_320 rfl (lv_at hl 3 rfl) ?_
  refine lv_iconst (v := 1) hx hb dL_law_321 (by decide) ?_
  refine lv_iadd hx hb dL_law_322 ?_
  refine va_sld hx hb hX hbl hbA hS (hi 1 (by decide)) dL_law_323 ?_
  refine lv_aload_n hx hb dL_law_324 rfl (lv_at hl 0 rfl) ?_
  refine lv_iload_n hx hb dL_law_325 rfl (lv_at hl 3 rfl) ?_
  refine lv_iconst (v := 2) hx hb dL_law_326 (by decide) ?_
  refine lv_iadd hx hb dL_law_327 ?_
  refine va_sld hx hb hX hbl hbA hS (hi 2 (by decide)) dL_law_328 ?_
  unfold wpM_6 at h
  refine vM_I (As := [.int (sc ((i3 + (1 : Int32)).toNatClampNeg)), .int (sc ((i3 + (2 : Int32)).toNatClampNeg))]) (rest := [.int r1]) ⟨hx, hb, hml, hown, hts⟩ (fX7_mark l D cB cI cJ cZ cR tz q2 hq y (sc ((i3 + (1 : Int32)).toNatClampNeg)) (sc ((i3 + (2 : Int32)).toNatClampNeg)) (fun r9 y9 => ((r1 = r9) → (Z x1 y9)) ∧ (¬ (r1 = r9) → False)) h) (cwV 2 hts gL_law_X7_mark rfl rfl rfl hdX7_mark ⟨Nat.le_of_ble_eq_true rfl, Nat.le_of_ble_eq_true rfl⟩) hK hP hD hS hA hT 7 rfl rfl rfl rfl hl.1 (Nat.le_of_ble_eq_true rfl) dL_law_329 ⟨(show cells + 0 + 0 ≤ 600000 by omega), (show slots + 0 + 0 ≤ 7302250 by omega)⟩ (fun r2 y1 H locs h hP hD hS => ?_)
  obtain ⟨hp9, hn9⟩ := h
  refine lv_icmp_eq (tgt := 993) hx hb dL_law_332 (by decide) (fun hc => ?_) (fun hc => (hn9 hc).elim)
  have h := hp9 hc
  refine W.widen (k := cells + 1) (n := slots + bud) (by omega) (by omega) ?_
  exact hn x1 y1 _ _ _ h hP hD hS hl
set_option maxHeartbeats 4000000 in
set_option maxRecDepth 100000 in
theorem lawc_7 {p : Program} {l : Launch} {e : Env} {s : State} {m : MethodId} {below : List Frame} {meth : Method} {c : Code} {D : va_G} {cB cI cJ cZ cR : ClassId} {tz b L : Nat} {sc : Nat → Int32} {A : Nat → Prop} (C0 : lw_At p s m meth c b L sc) (hA : ∀ q, s.heap.size ≤ q → A q) (hbA : ¬ A b) (hK : va_K D vwCl (vTy cB cI cJ cZ cR) s) (hT : vST tz A s s.heap) (q hq q2 : Nat → Nat) (x : XS) (y : MS) (i3 : Int32) (hi : ∀ d, d < 7 → vp_in (i3 + nI d) L) (bud cells slots : Nat) (hcs : cells + 1 ≤ 600000 ∧ slots + bud ≤ 7302250) (Z : XS → MS → Prop) (h : wpL_7 x y (sc ((i3 + (1 : Int32)).toNatClampNeg)) (sc ((i3 + (2 : Int32)).toNatClampNeg)) bud Z)
    (hn : ∀ (x9 : XS) (y9 : MS) (H : Heap) (locs : List Loc) (ls : Array Slot), Z x9 y9 → va_P D vwCl (WX q hq cB cI cJ cZ cR x9 ++ WM q2 hq cB cI cJ cZ cR y9) H → va_D A (WX q hq cB cI cJ cZ cR x9 ++ WM q2 hq cB cI cJ cZ cR y9) → va_S A s.heap H locs → lv_has ls 4 [(0, .ref b), (1, .ref (q 0)), (2, .ref (q2 0)), (3, .int i3)] → W p l e room_1 s m #[Value.ref b] below meth c H locs (cells + 1) (slots + bud) (lw_Z below #[Value.ref b] s) (F0 m 993 ls []))
    (H : Heap) (locs : List Loc) (ls : Array Slot) (hP : va_P D vwCl (WX q hq cB cI cJ cZ cR x ++ WM q2 hq cB cI cJ cZ cR y) H) (hD : va_D A (WX q hq cB cI cJ cZ cR x ++ WM q2 hq cB cI cJ cZ cR y)) (hS : va_S A s.heap H locs) (hl : lv_has ls 4 [(0, .ref b), (1, .ref (q 0)), (2, .ref (q2 0)), (3, .int i3)]) : W p l e room_1 s m #[Value.ref b] below meth c H locs cells slots (lw_Z below #[Value.ref b] s) (F0 m 337 ls []) := by
  obtain ⟨hx, hb, hr, hml, hown, hts0, hX, hbl, hlocks, hgv⟩ := C0
  have hts : ∀ w ∈ wsL_law, w.before #[Value.ref b] s = true := fun w hw => hts0 w (wsL_law_in w hw)
  have hown : s.vm.findClass RL = some m.cls := hown
  unfold wpL_7 at h
  refine lv_aload_n hx hb dL_law_337 rfl (lv_at hl 1 rfl) ?_
  refine lv_aload_n hx hb dL_law_338 rfl (lv_at hl 0 rfl) ?_
  refine lv_iload_n hx hb dL_law_339 rfl (lv_at hl 3 rfl) ?_
  refine lv_iconst (v := 1) hx hb dL_law_340 (by decide) ?_
  refine lv_iadd hx hb dL_law_341 ?_
  refine va_sld hx hb hX hbl hbA hS (hi 1 (by decide)) dL_law_342 ?_
  refine lv_aload_n hx hb dL_law_343 rfl (lv_at hl 0 rfl) ?_
  refine lv_iload_n hx hb dL_law_344 rfl (lv_at hl 3 rfl) ?_
  refine lv_iconst (v := 2) hx hb dL_law_345 (by decide) ?_
  refine lv_iadd hx hb dL_law_346 ?_
  refine va_sld hx hb hX hbl hbA hS (hi 2 (by decide)) dL_law_347 ?_
  refine vX_I (As := [.int (sc ((i3 + (1 : Int32)).toNatClampNeg)), .int (sc ((i3 + (2 : Int32)).toNatClampNeg))]) (rest := []) ⟨hx, hb, hml, hown, hts⟩ (fX6_table l D cB cI cJ cZ cR tz q hq x (sc ((i3 + (1 : Int32)).toNatClampNeg)) (sc ((i3 + (2 : Int32)).toNatClampNeg)) (fun r9 x9 => wpM_7 y (sc ((i3 + (1 : Int32)).toNatClampNeg)) (sc ((i3 + (2 : Int32)).toNatClampNeg)) r9 (Z x9)) h) (cwV 2 hts gL_law_X6_table rfl rfl rfl hdX6_table ⟨Nat.le_of_ble_eq_true rfl, Nat.le_of_ble_eq_true rfl⟩) hK hP hD hS hA hT 6 rfl rfl rfl rfl hl.1 (Nat.le_of_ble_eq_true rfl) dL_law_348 ⟨(show cells + 0 ≤ 600000 by omega), (show slots + 0 ≤ 7302250 by omega)⟩ (fun r1 x1 H locs h hP hD hS => ?_)
  refine lv_aload_n hx hb dL_law_351 rfl (lv_at hl 2 rfl) ?_
  refine lv_aload_n hx hb dL_law_352 rfl (lv_at hl 0 rfl) ?_
  refine lv_iload_n hx hb dL_law_353 rfl (lv_at hl 3 rfl) ?_
  refine lv_iconst (v := 1) hx hb dL_law_354 (by decide) ?_
  refine lv_iadd hx hb dL_law_355 ?_
  refine va_sld hx hb hX hbl hbA hS (hi 1 (by decide)) dL_law_356 ?_
  refine lv_aload_n hx hb dL_law_357 rfl (lv_at hl 0 rfl) ?_
  refine lv_iload_n hx hb dL_law_358 rfl (lv_at hl 3 rfl) ?_
  refine lv_iconst (v := 2) hx hb dL_law_359 (by decide) ?_
  refine lv_iadd hx hb dL_law_360 ?_
  refine va_sld hx hb hX hbl hbA hS (hi 2 (by decide)) dL_law_361 ?_
  unfold wpM_7 at h
  refine vM_I (As := [.int (sc ((i3 + (1 : Int32)).toNatClampNeg)), .int (sc ((i3 + (2 : Int32)).toNatClampNeg))]) (rest := [.int r1]) ⟨hx, hb, hml, hown, hts⟩ (fX7_table l D cB cI cJ cZ cR tz q2 hq y (sc ((i3 + (1 : Int32)).toNatClampNeg)) (sc ((i3 + (2 : Int32)).toNatClampNeg)) (fun r9 y9 => ((r1 = r9) → (Z x1 y9)) ∧ (¬ (r1 = r9) → False)) h) (cwV 2 hts gL_law_X7_table rfl rfl rfl hdX7_table ⟨Nat.le_of_ble_eq_true rfl, Nat.le_of_ble_eq_true rfl⟩) hK hP hD hS hA hT 7 rfl rfl rfl rfl hl.1 (Nat.le_of_ble_eq_true rfl) dL_law_362 ⟨(show cells + 0 + 0 ≤ 600000 by omega), (show slots + 0 + 0 ≤ 7302250 by omega)⟩ (fun r2 y1 H locs h hP hD hS => ?_)
  obtain ⟨hp9, hn9⟩ := h
  refine lv_icmp_eq (tgt := 993) hx hb dL_law_365 (by decide) (fun hc => ?_) (fun hc => (hn9 hc).elim)
  have h := hp9 hc
  refine W.widen (k := cells + 1) (n := slots + bud) (by omega) (by omega) ?_
  exact hn x1 y1 _ _ _ h hP hD hS hl
set_option maxHeartbeats 4000000 in
set_option maxRecDepth 100000 in
theorem lawc_8 {p : Program} {l : Launch} {e : Env} {s : State} {m : MethodId} {below : List Frame} {meth : Method} {c : Code} {D : va_G} {cB cI cJ cZ cR : ClassId} {tz b L : Nat} {sc : Nat → Int32} {A : Nat → Prop} (C0 : lw_At p s m meth c b L sc) (hA : ∀ q, s.heap.size ≤ q → A q) (hbA : ¬ A b) (hK : va_K D vwCl (vTy cB cI cJ cZ cR) s) (hT : vST tz A s s.heap) (q hq q2 : Nat → Nat) (x : XS) (y : MS) (i3 : Int32) (hi : ∀ d, d < 7 → vp_in (i3 + nI d) L) (bud cells slots : Nat) (hcs : cells + 1 ≤ 600000 ∧ slots + bud ≤ 7302250) (Z : XS → MS → Prop) (h : wpL_8 x y  bud Z)
    (hn : ∀ (x9 : XS) (y9 : MS) (H : Heap) (locs : List Loc) (ls : Array Slot), Z x9 y9 → va_P D vwCl (WX q hq cB cI cJ cZ cR x9 ++ WM q2 hq cB cI cJ cZ cR y9) H → va_D A (WX q hq cB cI cJ cZ cR x9 ++ WM q2 hq cB cI cJ cZ cR y9) → va_S A s.heap H locs → lv_has ls 4 [(0, .ref b), (1, .ref (q 0)), (2, .ref (q2 0)), (3, .int i3)] → W p l e room_1 s m #[Value.ref b] below meth c H locs (cells + 1) (slots + bud) (lw_Z below #[Value.ref b] s) (F0 m 993 ls []))
    (H : Heap) (locs : List Loc) (ls : Array Slot) (hP : va_P D vwCl (WX q hq cB cI cJ cZ cR x ++ WM q2 hq cB cI cJ cZ cR y) H) (hD : va_D A (WX q hq cB cI cJ cZ cR x ++ WM q2 hq cB cI cJ cZ cR y)) (hS : va_S A s.heap H locs) (hl : lv_has ls 4 [(0, .ref b), (1, .ref (q 0)), (2, .ref (q2 0)), (3, .int i3)]) : W p l e room_1 s m #[Value.ref b] below meth c H locs cells slots (lw_Z below #[Value.ref b] s) (F0 m 370 ls []) := by
  obtain ⟨hx, hb, hr, hml, hown, hts0, hX, hbl, hlocks, hgv⟩ := C0
  have hts : ∀ w ∈ wsL_law, w.before #[Value.ref b] s = true := fun w hw => hts0 w (wsL_law_in w hw)
  have hown : s.vm.findClass RL = some m.cls := hown
  unfold wpL_8 at h
  refine lv_aload_n hx hb dL_law_370 rfl (lv_at hl 1 rfl) ?_
  refine vX_L (As := []) (rest := []) ⟨hx, hb, hml, hown, hts⟩ (fX6_worth l D cB cI cJ cZ cR tz q hq x  (fun r9 x9 => wpM_8 y  r9 (Z x9)) h) (cwV 0 hts gL_law_X6_worth rfl rfl rfl hdX6_worth ⟨Nat.le_of_ble_eq_true rfl, Nat.le_of_ble_eq_true rfl⟩) hK hP hD hS hA hT 6 rfl rfl rfl rfl hl.1 (Nat.le_of_ble_eq_true rfl) dL_law_371 ⟨(show cells + 0 ≤ 600000 by omega), (show slots + 0 ≤ 7302250 by omega)⟩ (fun r1 x1 H locs h hP hD hS => ?_)
  refine lv_aload_n hx hb dL_law_374 rfl (lv_at hl 2 rfl) ?_
  unfold wpM_8 at h
  refine vM_L (As := []) (rest := [.long r1]) ⟨hx, hb, hml, hown, hts⟩ (fX7_worth l D cB cI cJ cZ cR tz q2 hq y  (fun r9 y9 => ((r1 = r9) → (Z x1 y9)) ∧ (¬ (r1 = r9) → False)) h) (cwV 0 hts gL_law_X7_worth rfl rfl rfl hdX7_worth ⟨Nat.le_of_ble_eq_true rfl, Nat.le_of_ble_eq_true rfl⟩) hK hP hD hS hA hT 7 rfl rfl rfl rfl hl.1 (Nat.le_of_ble_eq_true rfl) dL_law_375 ⟨(show cells + 0 + 0 ≤ 600000 by omega), (show slots + 0 + 0 ≤ 7302250 by omega)⟩ (fun r2 y1 H locs h hP hD hS => ?_)
  refine W.lcmp hx hb dL_law_378 ?_
  obtain ⟨hp9, hn9⟩ := h
  refine lv_if_eq (tgt := 993) hx hb dL_law_379 (by decide) (fun hc => ?_) (fun hc => (hn9 (fun z => hc ((lg_cmp_eq r1 r2).mpr z))).elim)
  have h := hp9 ((lg_cmp_eq r1 r2).mp hc)
  refine W.widen (k := cells + 1) (n := slots + bud) (by omega) (by omega) ?_
  exact hn x1 y1 _ _ _ h hP hD hS hl
set_option maxHeartbeats 4000000 in
set_option maxRecDepth 100000 in
theorem lawc_9 {p : Program} {l : Launch} {e : Env} {s : State} {m : MethodId} {below : List Frame} {meth : Method} {c : Code} {D : va_G} {cB cI cJ cZ cR : ClassId} {tz b L : Nat} {sc : Nat → Int32} {A : Nat → Prop} (C0 : lw_At p s m meth c b L sc) (hA : ∀ q, s.heap.size ≤ q → A q) (hbA : ¬ A b) (hK : va_K D vwCl (vTy cB cI cJ cZ cR) s) (hT : vST tz A s s.heap) (q hq q2 : Nat → Nat) (x : XS) (y : MS) (i3 : Int32) (hi : ∀ d, d < 7 → vp_in (i3 + nI d) L) (bud cells slots : Nat) (hcs : cells + 1 ≤ 600000 ∧ slots + bud ≤ 7302250) (Z : XS → MS → Prop) (h : wpL_9 x y (sc ((i3 + (1 : Int32)).toNatClampNeg)) (sc ((i3 + (2 : Int32)).toNatClampNeg)) (sc ((i3 + (3 : Int32)).toNatClampNeg)) (sc ((i3 + (4 : Int32)).toNatClampNeg)) (sc ((i3 + (5 : Int32)).toNatClampNeg)) bud Z)
    (hn : ∀ (x9 : XS) (y9 : MS) (H : Heap) (locs : List Loc) (ls : Array Slot), Z x9 y9 → va_P D vwCl (WX q hq cB cI cJ cZ cR x9 ++ WM q2 hq cB cI cJ cZ cR y9) H → va_D A (WX q hq cB cI cJ cZ cR x9 ++ WM q2 hq cB cI cJ cZ cR y9) → va_S A s.heap H locs → lv_has ls 4 [(0, .ref b), (1, .ref (q 0)), (2, .ref (q2 0)), (3, .int i3)] → W p l e room_1 s m #[Value.ref b] below meth c H locs (cells + 1) (slots + bud) (lw_Z below #[Value.ref b] s) (F0 m 993 ls []))
    (H : Heap) (locs : List Loc) (ls : Array Slot) (hP : va_P D vwCl (WX q hq cB cI cJ cZ cR x ++ WM q2 hq cB cI cJ cZ cR y) H) (hD : va_D A (WX q hq cB cI cJ cZ cR x ++ WM q2 hq cB cI cJ cZ cR y)) (hS : va_S A s.heap H locs) (hl : lv_has ls 4 [(0, .ref b), (1, .ref (q 0)), (2, .ref (q2 0)), (3, .int i3)]) : W p l e room_1 s m #[Value.ref b] below meth c H locs cells slots (lw_Z below #[Value.ref b] s) (F0 m 384 ls []) := by
  obtain ⟨hx, hb, hr, hml, hown, hts0, hX, hbl, hlocks, hgv⟩ := C0
  have hts : ∀ w ∈ wsL_law, w.before #[Value.ref b] s = true := fun w hw => hts0 w (wsL_law_in w hw)
  have hown : s.vm.findClass RL = some m.cls := hown
  unfold wpL_9 at h
  refine lv_aload_n hx hb dL_law_384 rfl (lv_at hl 1 rfl) ?_
  refine lv_aload_n hx hb dL_law_385 rfl (lv_at hl 0 rfl) ?_
  refine lv_iload_n hx hb dL_law_386 rfl (lv_at hl 3 rfl) ?_
  refine lv_iconst (v := 1) hx hb dL_law_387 (by decide) ?_
  refine lv_iadd hx hb dL_law_388 ?_
  refine va_sld hx hb hX hbl hbA hS (hi 1 (by decide)) dL_law_389 ?_
  refine lv_aload_n hx hb dL_law_390 rfl (lv_at hl 0 rfl) ?_
  refine lv_iload_n hx hb dL_law_391 rfl (lv_at hl 3 rfl) ?_
  refine lv_iconst (v := 2) hx hb dL_law_392 (by decide) ?_
  refine lv_iadd hx hb dL_law_393 ?_
  refine va_sld hx hb hX hbl hbA hS (hi 2 (by decide)) dL_law_394 ?_
  refine lv_aload_n hx hb dL_law_395 rfl (lv_at hl 0 rfl) ?_
  refine lv_iload_n hx hb dL_law_396 rfl (lv_at hl 3 rfl) ?_
  refine lv_iconst (v := 3) hx hb dL_law_397 (by decide) ?_
  refine lv_iadd hx hb dL_law_398 ?_
  refine va_sld hx hb hX hbl hbA hS (hi 3 (by decide)) dL_law_399 ?_
  refine lv_aload_n hx hb dL_law_400 rfl (lv_at hl 0 rfl) ?_
  refine lv_iload_n hx hb dL_law_401 rfl (lv_at hl 3 rfl) ?_
  refine lv_iconst (v := 4) hx hb dL_law_402 (by decide) ?_
  refine lv_iadd hx hb dL_law_403 ?_
  refine va_sld hx hb hX hbl hbA hS (hi 4 (by decide)) dL_law_404 ?_
  refine lv_aload_n hx hb dL_law_405 rfl (lv_at hl 0 rfl) ?_
  refine lv_iload_n hx hb dL_law_406 rfl (lv_at hl 3 rfl) ?_
  refine lv_iconst (v := 5) hx hb dL_law_407 (by decide) ?_
  refine lv_iadd hx hb dL_law_408 ?_
  refine va_sld hx hb hX hbl hbA hS (hi 5 (by decide)) dL_law_409 ?_
  refine vX_I (As := [.int (sc ((i3 + (1 : Int32)).toNatClampNeg)), .int (sc ((i3 + (2 : Int32)).toNatClampNeg)), .int (sc ((i3 + (3 : Int32)).toNatClampNeg)), .int (sc ((i3 + (4 : Int32)).toNatClampNeg)), .int (sc ((i3 + (5 : Int32)).toNatClampNeg))]) (rest := []) ⟨hx, hb, hml, hown, hts⟩ (fX6_known l D cB cI cJ cZ cR tz q hq x (sc ((i3 + (1 : Int32)).toNatClampNeg)) (sc ((i3 + (2 : Int32)).toNatClampNeg)) (sc ((i3 + (3 : Int32)).toNatClampNeg)) (sc ((i3 + (4 : Int32)).toNatClampNeg)) (sc ((i3 + (5 : Int32)).toNatClampNeg)) (fun r9 x9 => wpM_9 y (sc ((i3 + (1 : Int32)).toNatClampNeg)) (sc ((i3 + (2 : Int32)).toNatClampNeg)) (sc ((i3 + (3 : Int32)).toNatClampNeg)) (sc ((i3 + (4 : Int32)).toNatClampNeg)) (sc ((i3 + (5 : Int32)).toNatClampNeg)) r9 (Z x9)) h) (cwV 5 hts gL_law_X6_known rfl rfl rfl hdX6_known ⟨Nat.le_of_ble_eq_true rfl, Nat.le_of_ble_eq_true rfl⟩) hK hP hD hS hA hT 6 rfl rfl rfl rfl hl.1 (Nat.le_of_ble_eq_true rfl) dL_law_410 ⟨(show cells + 0 ≤ 600000 by omega), (show slots + 0 ≤ 7302250 by omega)⟩ (fun r1 x1 H locs h hP hD hS => ?_)
  refine lv_aload_n hx hb dL_law_413 rfl (lv_at hl 2 rfl) ?_
  refine lv_aload_n hx hb dL_law_414 rfl (lv_at hl 0 rfl) ?_
  refine lv_iload_n hx hb dL_law_415 rfl (lv_at hl 3 rfl) ?_
  refine lv_iconst (v := 1) hx hb dL_law_416 (by decide) ?_
  refine lv_iadd hx hb dL_law_417 ?_
  refine va_sld hx hb hX hbl hbA hS (hi 1 (by decide)) dL_law_418 ?_
  refine lv_aload_n hx hb dL_law_419 rfl (lv_at hl 0 rfl) ?_
  refine lv_iload_n hx hb dL_law_420 rfl (lv_at hl 3 rfl) ?_
  refine lv_iconst (v := 2) hx hb dL_law_421 (by decide) ?_
  refine lv_iadd hx hb dL_law_422 ?_
  refine va_sld hx hb hX hbl hbA hS (hi 2 (by decide)) dL_law_423 ?_
  refine lv_aload_n hx hb dL_law_424 rfl (lv_at hl 0 rfl) ?_
  refine lv_iload_n hx hb dL_law_425 rfl (lv_at hl 3 rfl) ?_
  refine lv_iconst (v := 3) hx hb dL_law_426 (by decide) ?_
  refine lv_iadd hx hb dL_law_427 ?_
  refine va_sld hx hb hX hbl hbA hS (hi 3 (by decide)) dL_law_428 ?_
  refine lv_aload_n hx hb dL_law_429 rfl (lv_at hl 0 rfl) ?_
  refine lv_iload_n hx hb dL_law_430 rfl (lv_at hl 3 rfl) ?_
  refine lv_iconst (v := 4) hx hb dL_law_431 (by decide) ?_
  refine lv_iadd hx hb dL_law_432 ?_
  refine va_sld hx hb hX hbl hbA hS (hi 4 (by decide)) dL_law_433 ?_
  refine lv_aload_n hx hb dL_law_434 rfl (lv_at hl 0 rfl) ?_
  refine lv_iload_n hx hb dL_law_435 rfl (lv_at hl 3 rfl) ?_
  refine lv_iconst (v := 5) hx hb dL_law_436 (by decide) ?_
  refine lv_iadd hx hb dL_law_437 ?_
  refine va_sld hx hb hX hbl hbA hS (hi 5 (by decide)) dL_law_438 ?_
  unfold wpM_9 at h
  refine vM_I (As := [.int (sc ((i3 + (1 : Int32)).toNatClampNeg)), .int (sc ((i3 + (2 : Int32)).toNatClampNeg)), .int (sc ((i3 + (3 : Int32)).toNatClampNeg)), .int (sc ((i3 + (4 : Int32)).toNatClampNeg)), .int (sc ((i3 + (5 : Int32)).toNatClampNeg))]) (rest := [.int r1]) ⟨hx, hb, hml, hown, hts⟩ (fX7_known l D cB cI cJ cZ cR tz q2 hq y (sc ((i3 + (1 : Int32)).toNatClampNeg)) (sc ((i3 + (2 : Int32)).toNatClampNeg)) (sc ((i3 + (3 : Int32)).toNatClampNeg)) (sc ((i3 + (4 : Int32)).toNatClampNeg)) (sc ((i3 + (5 : Int32)).toNatClampNeg)) (fun r9 y9 => ((r1 = r9) → (Z x1 y9)) ∧ (¬ (r1 = r9) → False)) h) (cwV 5 hts gL_law_X7_known rfl rfl rfl hdX7_known ⟨Nat.le_of_ble_eq_true rfl, Nat.le_of_ble_eq_true rfl⟩) hK hP hD hS hA hT 7 rfl rfl rfl rfl hl.1 (Nat.le_of_ble_eq_true rfl) dL_law_439 ⟨(show cells + 0 + 0 ≤ 600000 by omega), (show slots + 0 + 0 ≤ 7302250 by omega)⟩ (fun r2 y1 H locs h hP hD hS => ?_)
  obtain ⟨hp9, hn9⟩ := h
  refine lv_icmp_eq (tgt := 993) hx hb dL_law_442 (by decide) (fun hc => ?_) (fun hc => (hn9 hc).elim)
  have h := hp9 hc
  refine W.widen (k := cells + 1) (n := slots + bud) (by omega) (by omega) ?_
  exact hn x1 y1 _ _ _ h hP hD hS hl
set_option maxHeartbeats 4000000 in
set_option maxRecDepth 100000 in
theorem lawc_10 {p : Program} {l : Launch} {e : Env} {s : State} {m : MethodId} {below : List Frame} {meth : Method} {c : Code} {D : va_G} {cB cI cJ cZ cR : ClassId} {tz b L : Nat} {sc : Nat → Int32} {A : Nat → Prop} (C0 : lw_At p s m meth c b L sc) (hA : ∀ q, s.heap.size ≤ q → A q) (hbA : ¬ A b) (hK : va_K D vwCl (vTy cB cI cJ cZ cR) s) (hT : vST tz A s s.heap) (q hq q2 : Nat → Nat) (x : XS) (y : MS) (i3 : Int32) (hi : ∀ d, d < 7 → vp_in (i3 + nI d) L) (bud cells slots : Nat) (hcs : cells + 1 ≤ 600000 ∧ slots + bud ≤ 7302250) (Z : XS → MS → Prop) (h : wpL_10 x y (sc ((i3 + (1 : Int32)).toNatClampNeg)) (sc ((i3 + (2 : Int32)).toNatClampNeg)) (sc ((i3 + (3 : Int32)).toNatClampNeg)) (sc ((i3 + (4 : Int32)).toNatClampNeg)) (sc ((i3 + (5 : Int32)).toNatClampNeg)) (sc ((i3 + (6 : Int32)).toNatClampNeg)) bud Z)
    (hn : ∀ (x9 : XS) (y9 : MS) (H : Heap) (locs : List Loc) (ls : Array Slot), Z x9 y9 → va_P D vwCl (WX q hq cB cI cJ cZ cR x9 ++ WM q2 hq cB cI cJ cZ cR y9) H → va_D A (WX q hq cB cI cJ cZ cR x9 ++ WM q2 hq cB cI cJ cZ cR y9) → va_S A s.heap H locs → lv_has ls 4 [(0, .ref b), (1, .ref (q 0)), (2, .ref (q2 0)), (3, .int i3)] → W p l e room_1 s m #[Value.ref b] below meth c H locs (cells + 1) (slots + bud) (lw_Z below #[Value.ref b] s) (F0 m 993 ls []))
    (H : Heap) (locs : List Loc) (ls : Array Slot) (hP : va_P D vwCl (WX q hq cB cI cJ cZ cR x ++ WM q2 hq cB cI cJ cZ cR y) H) (hD : va_D A (WX q hq cB cI cJ cZ cR x ++ WM q2 hq cB cI cJ cZ cR y)) (hS : va_S A s.heap H locs) (hl : lv_has ls 4 [(0, .ref b), (1, .ref (q 0)), (2, .ref (q2 0)), (3, .int i3)]) : W p l e room_1 s m #[Value.ref b] below meth c H locs cells slots (lw_Z below #[Value.ref b] s) (F0 m 447 ls []) := by
  obtain ⟨hx, hb, hr, hml, hown, hts0, hX, hbl, hlocks, hgv⟩ := C0
  have hts : ∀ w ∈ wsL_law, w.before #[Value.ref b] s = true := fun w hw => hts0 w (wsL_law_in w hw)
  have hown : s.vm.findClass RL = some m.cls := hown
  unfold wpL_10 at h
  refine lv_aload_n hx hb dL_law_447 rfl (lv_at hl 1 rfl) ?_
  refine lv_aload_n hx hb dL_law_448 rfl (lv_at hl 0 rfl) ?_
  refine lv_iload_n hx hb dL_law_449 rfl (lv_at hl 3 rfl) ?_
  refine lv_iconst (v := 1) hx hb dL_law_450 (by decide) ?_
  refine lv_iadd hx hb dL_law_451 ?_
  refine va_sld hx hb hX hbl hbA hS (hi 1 (by decide)) dL_law_452 ?_
  refine lv_aload_n hx hb dL_law_453 rfl (lv_at hl 0 rfl) ?_
  refine lv_iload_n hx hb dL_law_454 rfl (lv_at hl 3 rfl) ?_
  refine lv_iconst (v := 2) hx hb dL_law_455 (by decide) ?_
  refine lv_iadd hx hb dL_law_456 ?_
  refine va_sld hx hb hX hbl hbA hS (hi 2 (by decide)) dL_law_457 ?_
  refine lv_aload_n hx hb dL_law_458 rfl (lv_at hl 0 rfl) ?_
  refine lv_iload_n hx hb dL_law_459 rfl (lv_at hl 3 rfl) ?_
  refine lv_iconst (v := 3) hx hb dL_law_460 (by decide) ?_
  refine lv_iadd hx hb dL_law_461 ?_
  refine va_sld hx hb hX hbl hbA hS (hi 3 (by decide)) dL_law_462 ?_
  refine lv_aload_n hx hb dL_law_463 rfl (lv_at hl 0 rfl) ?_
  refine lv_iload_n hx hb dL_law_464 rfl (lv_at hl 3 rfl) ?_
  refine lv_iconst (v := 4) hx hb dL_law_465 (by decide) ?_
  refine lv_iadd hx hb dL_law_466 ?_
  refine va_sld hx hb hX hbl hbA hS (hi 4 (by decide)) dL_law_467 ?_
  refine lv_aload_n hx hb dL_law_468 rfl (lv_at hl 0 rfl) ?_
  refine lv_iload_n hx hb dL_law_469 rfl (lv_at hl 3 rfl) ?_
  refine lv_iconst (v := 5) hx hb dL_law_470 (by decide) ?_
  refine lv_iadd hx hb dL_law_471 ?_
  refine va_sld hx hb hX hbl hbA hS (hi 5 (by decide)) dL_law_472 ?_
  refine lv_aload_n hx hb dL_law_473 rfl (lv_at hl 0 rfl) ?_
  refine lv_iload_n hx hb dL_law_474 rfl (lv_at hl 3 rfl) ?_
  refine lv_bipush (v := 6) hx hb dL_law_475 (by decide) ?_
  refine lv_iadd hx hb dL_law_477 ?_
  refine va_sld hx hb hX hbl hbA hS (hi 6 (by decide)) dL_law_478 ?_
  refine vX_L (As := [.int (sc ((i3 + (1 : Int32)).toNatClampNeg)), .int (sc ((i3 + (2 : Int32)).toNatClampNeg)), .int (sc ((i3 + (3 : Int32)).toNatClampNeg)), .int (sc ((i3 + (4 : Int32)).toNatClampNeg)), .int (sc ((i3 + (5 : Int32)).toNatClampNeg)), .int (sc ((i3 + (6 : Int32)).toNatClampNeg))]) (rest := []) ⟨hx, hb, hml, hown, hts⟩ (fX6_spread l D cB cI cJ cZ cR tz q hq x (sc ((i3 + (1 : Int32)).toNatClampNeg)) (sc ((i3 + (2 : Int32)).toNatClampNeg)) (sc ((i3 + (3 : Int32)).toNatClampNeg)) (sc ((i3 + (4 : Int32)).toNatClampNeg)) (sc ((i3 + (5 : Int32)).toNatClampNeg)) (sc ((i3 + (6 : Int32)).toNatClampNeg)) (fun r9 x9 => wpM_10 y (sc ((i3 + (1 : Int32)).toNatClampNeg)) (sc ((i3 + (2 : Int32)).toNatClampNeg)) (sc ((i3 + (3 : Int32)).toNatClampNeg)) (sc ((i3 + (4 : Int32)).toNatClampNeg)) (sc ((i3 + (5 : Int32)).toNatClampNeg)) (sc ((i3 + (6 : Int32)).toNatClampNeg)) r9 (Z x9)) h) (cwV 6 hts gL_law_X6_spread rfl rfl rfl hdX6_spread ⟨Nat.le_of_ble_eq_true rfl, Nat.le_of_ble_eq_true rfl⟩) hK hP hD hS hA hT 6 rfl rfl rfl rfl hl.1 (Nat.le_of_ble_eq_true rfl) dL_law_479 ⟨(show cells + 0 ≤ 600000 by omega), (show slots + 0 ≤ 7302250 by omega)⟩ (fun r1 x1 H locs h hP hD hS => ?_)
  refine lv_aload_n hx hb dL_law_482 rfl (lv_at hl 2 rfl) ?_
  refine lv_aload_n hx hb dL_law_483 rfl (lv_at hl 0 rfl) ?_
  refine lv_iload_n hx hb dL_law_484 rfl (lv_at hl 3 rfl) ?_
  refine lv_iconst (v := 1) hx hb dL_law_485 (by decide) ?_
  refine lv_iadd hx hb dL_law_486 ?_
  refine va_sld hx hb hX hbl hbA hS (hi 1 (by decide)) dL_law_487 ?_
  refine lv_aload_n hx hb dL_law_488 rfl (lv_at hl 0 rfl) ?_
  refine lv_iload_n hx hb dL_law_489 rfl (lv_at hl 3 rfl) ?_
  refine lv_iconst (v := 2) hx hb dL_law_490 (by decide) ?_
  refine lv_iadd hx hb dL_law_491 ?_
  refine va_sld hx hb hX hbl hbA hS (hi 2 (by decide)) dL_law_492 ?_
  refine lv_aload_n hx hb dL_law_493 rfl (lv_at hl 0 rfl) ?_
  refine lv_iload_n hx hb dL_law_494 rfl (lv_at hl 3 rfl) ?_
  refine lv_iconst (v := 3) hx hb dL_law_495 (by decide) ?_
  refine lv_iadd hx hb dL_law_496 ?_
  refine va_sld hx hb hX hbl hbA hS (hi 3 (by decide)) dL_law_497 ?_
  refine lv_aload_n hx hb dL_law_498 rfl (lv_at hl 0 rfl) ?_
  refine lv_iload_n hx hb dL_law_499 rfl (lv_at hl 3 rfl) ?_
  refine lv_iconst (v := 4) hx hb dL_law_500 (by decide) ?_
  refine lv_iadd hx hb dL_law_501 ?_
  refine va_sld hx hb hX hbl hbA hS (hi 4 (by decide)) dL_law_502 ?_
  refine lv_aload_n hx hb dL_law_503 rfl (lv_at hl 0 rfl) ?_
  refine lv_iload_n hx hb dL_law_504 rfl (lv_at hl 3 rfl) ?_
  refine lv_iconst (v := 5) hx hb dL_law_505 (by decide) ?_
  refine lv_iadd hx hb dL_law_506 ?_
  refine va_sld hx hb hX hbl hbA hS (hi 5 (by decide)) dL_law_507 ?_
  refine lv_aload_n hx hb dL_law_508 rfl (lv_at hl 0 rfl) ?_
  refine lv_iload_n hx hb dL_law_509 rfl (lv_at hl 3 rfl) ?_
  refine lv_bipush (v := 6) hx hb dL_law_510 (by decide) ?_
  refine lv_iadd hx hb dL_law_512 ?_
  refine va_sld hx hb hX hbl hbA hS (hi 6 (by decide)) dL_law_513 ?_
  unfold wpM_10 at h
  refine vM_L (As := [.int (sc ((i3 + (1 : Int32)).toNatClampNeg)), .int (sc ((i3 + (2 : Int32)).toNatClampNeg)), .int (sc ((i3 + (3 : Int32)).toNatClampNeg)), .int (sc ((i3 + (4 : Int32)).toNatClampNeg)), .int (sc ((i3 + (5 : Int32)).toNatClampNeg)), .int (sc ((i3 + (6 : Int32)).toNatClampNeg))]) (rest := [.long r1]) ⟨hx, hb, hml, hown, hts⟩ (fX7_spread l D cB cI cJ cZ cR tz q2 hq y (sc ((i3 + (1 : Int32)).toNatClampNeg)) (sc ((i3 + (2 : Int32)).toNatClampNeg)) (sc ((i3 + (3 : Int32)).toNatClampNeg)) (sc ((i3 + (4 : Int32)).toNatClampNeg)) (sc ((i3 + (5 : Int32)).toNatClampNeg)) (sc ((i3 + (6 : Int32)).toNatClampNeg)) (fun r9 y9 => ((r1 = r9) → (Z x1 y9)) ∧ (¬ (r1 = r9) → False)) h) (cwV 6 hts gL_law_X7_spread rfl rfl rfl hdX7_spread ⟨Nat.le_of_ble_eq_true rfl, Nat.le_of_ble_eq_true rfl⟩) hK hP hD hS hA hT 7 rfl rfl rfl rfl hl.1 (Nat.le_of_ble_eq_true rfl) dL_law_514 ⟨(show cells + 0 + 0 ≤ 600000 by omega), (show slots + 0 + 0 ≤ 7302250 by omega)⟩ (fun r2 y1 H locs h hP hD hS => ?_)
  refine W.lcmp hx hb dL_law_517 ?_
  obtain ⟨hp9, hn9⟩ := h
  refine lv_if_eq (tgt := 993) hx hb dL_law_518 (by decide) (fun hc => ?_) (fun hc => (hn9 (fun z => hc ((lg_cmp_eq r1 r2).mpr z))).elim)
  have h := hp9 ((lg_cmp_eq r1 r2).mp hc)
  refine W.widen (k := cells + 1) (n := slots + bud) (by omega) (by omega) ?_
  exact hn x1 y1 _ _ _ h hP hD hS hl
set_option maxHeartbeats 4000000 in
set_option maxRecDepth 100000 in
theorem lawc_11 {p : Program} {l : Launch} {e : Env} {s : State} {m : MethodId} {below : List Frame} {meth : Method} {c : Code} {D : va_G} {cB cI cJ cZ cR : ClassId} {tz b L : Nat} {sc : Nat → Int32} {A : Nat → Prop} (C0 : lw_At p s m meth c b L sc) (hA : ∀ q, s.heap.size ≤ q → A q) (hbA : ¬ A b) (hK : va_K D vwCl (vTy cB cI cJ cZ cR) s) (hT : vST tz A s s.heap) (q hq q2 : Nat → Nat) (x : XS) (y : MS) (i3 : Int32) (hi : ∀ d, d < 7 → vp_in (i3 + nI d) L) (bud cells slots : Nat) (hcs : cells + 1 ≤ 600000 ∧ slots + bud ≤ 7302250) (Z : XS → MS → Prop) (h : wpL_11 x y (sc ((i3 + (1 : Int32)).toNatClampNeg)) bud Z)
    (hn : ∀ (x9 : XS) (y9 : MS) (H : Heap) (locs : List Loc) (ls : Array Slot), Z x9 y9 → va_P D vwCl (WX q hq cB cI cJ cZ cR x9 ++ WM q2 hq cB cI cJ cZ cR y9) H → va_D A (WX q hq cB cI cJ cZ cR x9 ++ WM q2 hq cB cI cJ cZ cR y9) → va_S A s.heap H locs → lv_has ls 4 [(0, .ref b), (1, .ref (q 0)), (2, .ref (q2 0)), (3, .int i3)] → W p l e room_1 s m #[Value.ref b] below meth c H locs (cells + 1) (slots + bud) (lw_Z below #[Value.ref b] s) (F0 m 993 ls []))
    (H : Heap) (locs : List Loc) (ls : Array Slot) (hP : va_P D vwCl (WX q hq cB cI cJ cZ cR x ++ WM q2 hq cB cI cJ cZ cR y) H) (hD : va_D A (WX q hq cB cI cJ cZ cR x ++ WM q2 hq cB cI cJ cZ cR y)) (hS : va_S A s.heap H locs) (hl : lv_has ls 4 [(0, .ref b), (1, .ref (q 0)), (2, .ref (q2 0)), (3, .int i3)]) : W p l e room_1 s m #[Value.ref b] below meth c H locs cells slots (lw_Z below #[Value.ref b] s) (F0 m 523 ls []) := by
  obtain ⟨hx, hb, hr, hml, hown, hts0, hX, hbl, hlocks, hgv⟩ := C0
  have hts : ∀ w ∈ wsL_law, w.before #[Value.ref b] s = true := fun w hw => hts0 w (wsL_law_in w hw)
  have hown : s.vm.findClass RL = some m.cls := hown
  unfold wpL_11 at h
  refine lv_aload_n hx hb dL_law_523 rfl (lv_at hl 1 rfl) ?_
  refine lv_aload_n hx hb dL_law_524 rfl (lv_at hl 0 rfl) ?_
  refine lv_iload_n hx hb dL_law_525 rfl (lv_at hl 3 rfl) ?_
  refine lv_iconst (v := 1) hx hb dL_law_526 (by decide) ?_
  refine lv_iadd hx hb dL_law_527 ?_
  refine va_sld hx hb hX hbl hbA hS (hi 1 (by decide)) dL_law_528 ?_
  refine vX_L (As := [.int (sc ((i3 + (1 : Int32)).toNatClampNeg))]) (rest := []) ⟨hx, hb, hml, hown, hts⟩ (fX6_widest l D cB cI cJ cZ cR tz q hq x (sc ((i3 + (1 : Int32)).toNatClampNeg)) (fun r9 x9 => wpM_11 y (sc ((i3 + (1 : Int32)).toNatClampNeg)) r9 (Z x9)) h) (cwV 1 hts gL_law_X6_widest rfl rfl rfl hdX6_widest ⟨Nat.le_of_ble_eq_true rfl, Nat.le_of_ble_eq_true rfl⟩) hK hP hD hS hA hT 6 rfl rfl rfl rfl hl.1 (Nat.le_of_ble_eq_true rfl) dL_law_529 ⟨(show cells + 0 ≤ 600000 by omega), (show slots + 0 ≤ 7302250 by omega)⟩ (fun r1 x1 H locs h hP hD hS => ?_)
  refine lv_aload_n hx hb dL_law_532 rfl (lv_at hl 2 rfl) ?_
  refine lv_aload_n hx hb dL_law_533 rfl (lv_at hl 0 rfl) ?_
  refine lv_iload_n hx hb dL_law_534 rfl (lv_at hl 3 rfl) ?_
  refine lv_iconst (v := 1) hx hb dL_law_535 (by decide) ?_
  refine lv_iadd hx hb dL_law_536 ?_
  refine va_sld hx hb hX hbl hbA hS (hi 1 (by decide)) dL_law_537 ?_
  unfold wpM_11 at h
  refine vM_L (As := [.int (sc ((i3 + (1 : Int32)).toNatClampNeg))]) (rest := [.long r1]) ⟨hx, hb, hml, hown, hts⟩ (fX7_widest l D cB cI cJ cZ cR tz q2 hq y (sc ((i3 + (1 : Int32)).toNatClampNeg)) (fun r9 y9 => ((r1 = r9) → (Z x1 y9)) ∧ (¬ (r1 = r9) → False)) h) (cwV 1 hts gL_law_X7_widest rfl rfl rfl hdX7_widest ⟨Nat.le_of_ble_eq_true rfl, Nat.le_of_ble_eq_true rfl⟩) hK hP hD hS hA hT 7 rfl rfl rfl rfl hl.1 (Nat.le_of_ble_eq_true rfl) dL_law_538 ⟨(show cells + 0 + 0 ≤ 600000 by omega), (show slots + 0 + 0 ≤ 7302250 by omega)⟩ (fun r2 y1 H locs h hP hD hS => ?_)
  refine W.lcmp hx hb dL_law_541 ?_
  obtain ⟨hp9, hn9⟩ := h
  refine lv_if_eq (tgt := 993) hx hb dL_law_542 (by decide) (fun hc => ?_) (fun hc => (hn9 (fun z => hc ((lg_cmp_eq r1 r2).mpr z))).elim)
  have h := hp9 ((lg_cmp_eq r1 r2).mp hc)
  refine W.widen (k := cells + 1) (n := slots + bud) (by omega) (by omega) ?_
  exact hn x1 y1 _ _ _ h hP hD hS hl
set_option maxHeartbeats 4000000 in
set_option maxRecDepth 100000 in
theorem lawc_12 {p : Program} {l : Launch} {e : Env} {s : State} {m : MethodId} {below : List Frame} {meth : Method} {c : Code} {D : va_G} {cB cI cJ cZ cR : ClassId} {tz b L : Nat} {sc : Nat → Int32} {A : Nat → Prop} (C0 : lw_At p s m meth c b L sc) (hA : ∀ q, s.heap.size ≤ q → A q) (hbA : ¬ A b) (hK : va_K D vwCl (vTy cB cI cJ cZ cR) s) (hT : vST tz A s s.heap) (q hq q2 : Nat → Nat) (x : XS) (y : MS) (i3 : Int32) (hi : ∀ d, d < 7 → vp_in (i3 + nI d) L) (bud cells slots : Nat) (hcs : cells + 1 ≤ 600000 ∧ slots + bud ≤ 7302250) (Z : XS → MS → Prop) (h : wpL_12 x y  bud Z)
    (hn : ∀ (x9 : XS) (y9 : MS) (H : Heap) (locs : List Loc) (ls : Array Slot), Z x9 y9 → va_P D vwCl (WX q hq cB cI cJ cZ cR x9 ++ WM q2 hq cB cI cJ cZ cR y9) H → va_D A (WX q hq cB cI cJ cZ cR x9 ++ WM q2 hq cB cI cJ cZ cR y9) → va_S A s.heap H locs → lv_has ls 4 [(0, .ref b), (1, .ref (q 0)), (2, .ref (q2 0)), (3, .int i3)] → W p l e room_1 s m #[Value.ref b] below meth c H locs (cells + 1) (slots + bud) (lw_Z below #[Value.ref b] s) (F0 m 993 ls []))
    (H : Heap) (locs : List Loc) (ls : Array Slot) (hP : va_P D vwCl (WX q hq cB cI cJ cZ cR x ++ WM q2 hq cB cI cJ cZ cR y) H) (hD : va_D A (WX q hq cB cI cJ cZ cR x ++ WM q2 hq cB cI cJ cZ cR y)) (hS : va_S A s.heap H locs) (hl : lv_has ls 4 [(0, .ref b), (1, .ref (q 0)), (2, .ref (q2 0)), (3, .int i3)]) : W p l e room_1 s m #[Value.ref b] below meth c H locs cells slots (lw_Z below #[Value.ref b] s) (F0 m 547 ls []) := by
  obtain ⟨hx, hb, hr, hml, hown, hts0, hX, hbl, hlocks, hgv⟩ := C0
  have hts : ∀ w ∈ wsL_law, w.before #[Value.ref b] s = true := fun w hw => hts0 w (wsL_law_in w hw)
  have hown : s.vm.findClass RL = some m.cls := hown
  unfold wpL_12 at h
  refine lv_aload_n hx hb dL_law_547 rfl (lv_at hl 1 rfl) ?_
  refine vX_I (As := []) (rest := []) ⟨hx, hb, hml, hown, hts⟩ (fX6_needed l D cB cI cJ cZ cR tz q hq x  (fun r9 x9 => wpM_12 y  r9 (Z x9)) h) (cwV 0 hts gL_law_X6_needed rfl rfl rfl hdX6_needed ⟨Nat.le_of_ble_eq_true rfl, Nat.le_of_ble_eq_true rfl⟩) hK hP hD hS hA hT 6 rfl rfl rfl rfl hl.1 (Nat.le_of_ble_eq_true rfl) dL_law_548 ⟨(show cells + 0 ≤ 600000 by omega), (show slots + 0 ≤ 7302250 by omega)⟩ (fun r1 x1 H locs h hP hD hS => ?_)
  refine lv_aload_n hx hb dL_law_551 rfl (lv_at hl 2 rfl) ?_
  unfold wpM_12 at h
  refine vM_I (As := []) (rest := [.int r1]) ⟨hx, hb, hml, hown, hts⟩ (fX7_needed l D cB cI cJ cZ cR tz q2 hq y  (fun r9 y9 => ((r1 = r9) → (Z x1 y9)) ∧ (¬ (r1 = r9) → False)) h) (cwV 0 hts gL_law_X7_needed rfl rfl rfl hdX7_needed ⟨Nat.le_of_ble_eq_true rfl, Nat.le_of_ble_eq_true rfl⟩) hK hP hD hS hA hT 7 rfl rfl rfl rfl hl.1 (Nat.le_of_ble_eq_true rfl) dL_law_552 ⟨(show cells + 0 + 0 ≤ 600000 by omega), (show slots + 0 + 0 ≤ 7302250 by omega)⟩ (fun r2 y1 H locs h hP hD hS => ?_)
  obtain ⟨hp9, hn9⟩ := h
  refine lv_icmp_eq (tgt := 993) hx hb dL_law_555 (by decide) (fun hc => ?_) (fun hc => (hn9 hc).elim)
  have h := hp9 hc
  refine W.widen (k := cells + 1) (n := slots + bud) (by omega) (by omega) ?_
  exact hn x1 y1 _ _ _ h hP hD hS hl
set_option maxHeartbeats 4000000 in
set_option maxRecDepth 100000 in
theorem lawc_13 {p : Program} {l : Launch} {e : Env} {s : State} {m : MethodId} {below : List Frame} {meth : Method} {c : Code} {D : va_G} {cB cI cJ cZ cR : ClassId} {tz b L : Nat} {sc : Nat → Int32} {A : Nat → Prop} (C0 : lw_At p s m meth c b L sc) (hA : ∀ q, s.heap.size ≤ q → A q) (hbA : ¬ A b) (hK : va_K D vwCl (vTy cB cI cJ cZ cR) s) (hT : vST tz A s s.heap) (q hq q2 : Nat → Nat) (x : XS) (y : MS) (i3 : Int32) (hi : ∀ d, d < 7 → vp_in (i3 + nI d) L) (bud cells slots : Nat) (hcs : cells + 1 ≤ 600000 ∧ slots + bud ≤ 7302250) (Z : XS → MS → Prop) (h : wpL_13 x y (sc ((i3 + (1 : Int32)).toNatClampNeg)) bud Z)
    (hn : ∀ (x9 : XS) (y9 : MS) (H : Heap) (locs : List Loc) (ls : Array Slot), Z x9 y9 → va_P D vwCl (WX q hq cB cI cJ cZ cR x9 ++ WM q2 hq cB cI cJ cZ cR y9) H → va_D A (WX q hq cB cI cJ cZ cR x9 ++ WM q2 hq cB cI cJ cZ cR y9) → va_S A s.heap H locs → lv_has ls 4 [(0, .ref b), (1, .ref (q 0)), (2, .ref (q2 0)), (3, .int i3)] → W p l e room_1 s m #[Value.ref b] below meth c H locs (cells + 1) (slots + bud) (lw_Z below #[Value.ref b] s) (F0 m 993 ls []))
    (H : Heap) (locs : List Loc) (ls : Array Slot) (hP : va_P D vwCl (WX q hq cB cI cJ cZ cR x ++ WM q2 hq cB cI cJ cZ cR y) H) (hD : va_D A (WX q hq cB cI cJ cZ cR x ++ WM q2 hq cB cI cJ cZ cR y)) (hS : va_S A s.heap H locs) (hl : lv_has ls 4 [(0, .ref b), (1, .ref (q 0)), (2, .ref (q2 0)), (3, .int i3)]) : W p l e room_1 s m #[Value.ref b] below meth c H locs cells slots (lw_Z below #[Value.ref b] s) (F0 m 560 ls []) := by
  obtain ⟨hx, hb, hr, hml, hown, hts0, hX, hbl, hlocks, hgv⟩ := C0
  have hts : ∀ w ∈ wsL_law, w.before #[Value.ref b] s = true := fun w hw => hts0 w (wsL_law_in w hw)
  have hown : s.vm.findClass RL = some m.cls := hown
  unfold wpL_13 at h
  refine lv_aload_n hx hb dL_law_560 rfl (lv_at hl 1 rfl) ?_
  refine lv_aload_n hx hb dL_law_561 rfl (lv_at hl 0 rfl) ?_
  refine lv_iload_n hx hb dL_law_562 rfl (lv_at hl 3 rfl) ?_
  refine lv_iconst (v := 1) hx hb dL_law_563 (by decide) ?_
  refine lv_iadd hx hb dL_law_564 ?_
  refine va_sld hx hb hX hbl hbA hS (hi 1 (by decide)) dL_law_565 ?_
  refine vX_I (As := [.int (sc ((i3 + (1 : Int32)).toNatClampNeg))]) (rest := []) ⟨hx, hb, hml, hown, hts⟩ (fX6_best l D cB cI cJ cZ cR tz q hq x (sc ((i3 + (1 : Int32)).toNatClampNeg)) (fun r9 x9 => wpM_13 y (sc ((i3 + (1 : Int32)).toNatClampNeg)) r9 (Z x9)) h) (cwV 1 hts gL_law_X6_best rfl rfl rfl hdX6_best ⟨Nat.le_of_ble_eq_true rfl, Nat.le_of_ble_eq_true rfl⟩) hK hP hD hS hA hT 6 rfl rfl rfl rfl hl.1 (Nat.le_of_ble_eq_true rfl) dL_law_566 ⟨(show cells + 0 ≤ 600000 by omega), (show slots + 0 ≤ 7302250 by omega)⟩ (fun r1 x1 H locs h hP hD hS => ?_)
  refine lv_aload_n hx hb dL_law_569 rfl (lv_at hl 2 rfl) ?_
  refine lv_aload_n hx hb dL_law_570 rfl (lv_at hl 0 rfl) ?_
  refine lv_iload_n hx hb dL_law_571 rfl (lv_at hl 3 rfl) ?_
  refine lv_iconst (v := 1) hx hb dL_law_572 (by decide) ?_
  refine lv_iadd hx hb dL_law_573 ?_
  refine va_sld hx hb hX hbl hbA hS (hi 1 (by decide)) dL_law_574 ?_
  unfold wpM_13 at h
  refine vM_I (As := [.int (sc ((i3 + (1 : Int32)).toNatClampNeg))]) (rest := [.int r1]) ⟨hx, hb, hml, hown, hts⟩ (fX7_best l D cB cI cJ cZ cR tz q2 hq y (sc ((i3 + (1 : Int32)).toNatClampNeg)) (fun r9 y9 => ((r1 = r9) → (Z x1 y9)) ∧ (¬ (r1 = r9) → False)) h) (cwV 1 hts gL_law_X7_best rfl rfl rfl hdX7_best ⟨Nat.le_of_ble_eq_true rfl, Nat.le_of_ble_eq_true rfl⟩) hK hP hD hS hA hT 7 rfl rfl rfl rfl hl.1 (Nat.le_of_ble_eq_true rfl) dL_law_575 ⟨(show cells + 0 + 0 ≤ 600000 by omega), (show slots + 0 + 0 ≤ 7302250 by omega)⟩ (fun r2 y1 H locs h hP hD hS => ?_)
  obtain ⟨hp9, hn9⟩ := h
  refine lv_icmp_eq (tgt := 993) hx hb dL_law_578 (by decide) (fun hc => ?_) (fun hc => (hn9 hc).elim)
  have h := hp9 hc
  refine W.widen (k := cells + 1) (n := slots + bud) (by omega) (by omega) ?_
  exact hn x1 y1 _ _ _ h hP hD hS hl
set_option maxHeartbeats 4000000 in
set_option maxRecDepth 100000 in
theorem lawc_14 {p : Program} {l : Launch} {e : Env} {s : State} {m : MethodId} {below : List Frame} {meth : Method} {c : Code} {D : va_G} {cB cI cJ cZ cR : ClassId} {tz b L : Nat} {sc : Nat → Int32} {A : Nat → Prop} (C0 : lw_At p s m meth c b L sc) (hA : ∀ q, s.heap.size ≤ q → A q) (hbA : ¬ A b) (hK : va_K D vwCl (vTy cB cI cJ cZ cR) s) (hT : vST tz A s s.heap) (q hq q2 : Nat → Nat) (x : XS) (y : MS) (i3 : Int32) (hi : ∀ d, d < 7 → vp_in (i3 + nI d) L) (bud cells slots : Nat) (hcs : cells + 1 ≤ 600000 ∧ slots + bud ≤ 7302250) (Z : XS → MS → Prop) (h : wpL_14 x y (sc ((i3 + (1 : Int32)).toNatClampNeg)) bud Z)
    (hn : ∀ (x9 : XS) (y9 : MS) (H : Heap) (locs : List Loc) (ls : Array Slot), Z x9 y9 → va_P D vwCl (WX q hq cB cI cJ cZ cR x9 ++ WM q2 hq cB cI cJ cZ cR y9) H → va_D A (WX q hq cB cI cJ cZ cR x9 ++ WM q2 hq cB cI cJ cZ cR y9) → va_S A s.heap H locs → lv_has ls 4 [(0, .ref b), (1, .ref (q 0)), (2, .ref (q2 0)), (3, .int i3)] → W p l e room_1 s m #[Value.ref b] below meth c H locs (cells + 1) (slots + bud) (lw_Z below #[Value.ref b] s) (F0 m 993 ls []))
    (H : Heap) (locs : List Loc) (ls : Array Slot) (hP : va_P D vwCl (WX q hq cB cI cJ cZ cR x ++ WM q2 hq cB cI cJ cZ cR y) H) (hD : va_D A (WX q hq cB cI cJ cZ cR x ++ WM q2 hq cB cI cJ cZ cR y)) (hS : va_S A s.heap H locs) (hl : lv_has ls 4 [(0, .ref b), (1, .ref (q 0)), (2, .ref (q2 0)), (3, .int i3)]) : W p l e room_1 s m #[Value.ref b] below meth c H locs cells slots (lw_Z below #[Value.ref b] s) (F0 m 583 ls []) := by
  obtain ⟨hx, hb, hr, hml, hown, hts0, hX, hbl, hlocks, hgv⟩ := C0
  have hts : ∀ w ∈ wsL_law, w.before #[Value.ref b] s = true := fun w hw => hts0 w (wsL_law_in w hw)
  have hown : s.vm.findClass RL = some m.cls := hown
  unfold wpL_14 at h
  refine lv_aload_n hx hb dL_law_583 rfl (lv_at hl 1 rfl) ?_
  refine lv_aload_n hx hb dL_law_584 rfl (lv_at hl 0 rfl) ?_
  refine lv_iload_n hx hb dL_law_585 rfl (lv_at hl 3 rfl) ?_
  refine lv_iconst (v := 1) hx hb dL_law_586 (by decide) ?_
  refine lv_iadd hx hb dL_law_587 ?_
  refine va_sld hx hb hX hbl hbA hS (hi 1 (by decide)) dL_law_588 ?_
  refine vX_I (As := [.int (sc ((i3 + (1 : Int32)).toNatClampNeg))]) (rest := []) ⟨hx, hb, hml, hown, hts⟩ (fX6_bests l D cB cI cJ cZ cR tz q hq x (sc ((i3 + (1 : Int32)).toNatClampNeg)) (fun r9 x9 => wpM_14 y (sc ((i3 + (1 : Int32)).toNatClampNeg)) r9 (Z x9)) h) (cwV 1 hts gL_law_X6_bests rfl rfl rfl hdX6_bests ⟨Nat.le_of_ble_eq_true rfl, Nat.le_of_ble_eq_true rfl⟩) hK hP hD hS hA hT 6 rfl rfl rfl rfl hl.1 (Nat.le_of_ble_eq_true rfl) dL_law_589 ⟨(show cells + 0 ≤ 600000 by omega), (show slots + 0 ≤ 7302250 by omega)⟩ (fun r1 x1 H locs h hP hD hS => ?_)
  refine lv_aload_n hx hb dL_law_592 rfl (lv_at hl 2 rfl) ?_
  refine lv_aload_n hx hb dL_law_593 rfl (lv_at hl 0 rfl) ?_
  refine lv_iload_n hx hb dL_law_594 rfl (lv_at hl 3 rfl) ?_
  refine lv_iconst (v := 1) hx hb dL_law_595 (by decide) ?_
  refine lv_iadd hx hb dL_law_596 ?_
  refine va_sld hx hb hX hbl hbA hS (hi 1 (by decide)) dL_law_597 ?_
  unfold wpM_14 at h
  refine vM_I (As := [.int (sc ((i3 + (1 : Int32)).toNatClampNeg))]) (rest := [.int r1]) ⟨hx, hb, hml, hown, hts⟩ (fX7_bests l D cB cI cJ cZ cR tz q2 hq y (sc ((i3 + (1 : Int32)).toNatClampNeg)) (fun r9 y9 => ((r1 = r9) → (Z x1 y9)) ∧ (¬ (r1 = r9) → False)) h) (cwV 1 hts gL_law_X7_bests rfl rfl rfl hdX7_bests ⟨Nat.le_of_ble_eq_true rfl, Nat.le_of_ble_eq_true rfl⟩) hK hP hD hS hA hT 7 rfl rfl rfl rfl hl.1 (Nat.le_of_ble_eq_true rfl) dL_law_598 ⟨(show cells + 0 + 0 ≤ 600000 by omega), (show slots + 0 + 0 ≤ 7302250 by omega)⟩ (fun r2 y1 H locs h hP hD hS => ?_)
  obtain ⟨hp9, hn9⟩ := h
  refine lv_icmp_eq (tgt := 993) hx hb dL_law_601 (by decide) (fun hc => ?_) (fun hc => (hn9 hc).elim)
  have h := hp9 hc
  refine W.widen (k := cells + 1) (n := slots + bud) (by omega) (by omega) ?_
  exact hn x1 y1 _ _ _ h hP hD hS hl
set_option maxHeartbeats 4000000 in
set_option maxRecDepth 100000 in
theorem lawc_15 {p : Program} {l : Launch} {e : Env} {s : State} {m : MethodId} {below : List Frame} {meth : Method} {c : Code} {D : va_G} {cB cI cJ cZ cR : ClassId} {tz b L : Nat} {sc : Nat → Int32} {A : Nat → Prop} (C0 : lw_At p s m meth c b L sc) (hA : ∀ q, s.heap.size ≤ q → A q) (hbA : ¬ A b) (hK : va_K D vwCl (vTy cB cI cJ cZ cR) s) (hT : vST tz A s s.heap) (q hq q2 : Nat → Nat) (x : XS) (y : MS) (i3 : Int32) (hi : ∀ d, d < 7 → vp_in (i3 + nI d) L) (bud cells slots : Nat) (hcs : cells + 1 ≤ 600000 ∧ slots + bud ≤ 7302250) (Z : XS → MS → Prop) (h : wpL_15 x y  bud Z)
    (hn : ∀ (x9 : XS) (y9 : MS) (H : Heap) (locs : List Loc) (ls : Array Slot), Z x9 y9 → va_P D vwCl (WX q hq cB cI cJ cZ cR x9 ++ WM q2 hq cB cI cJ cZ cR y9) H → va_D A (WX q hq cB cI cJ cZ cR x9 ++ WM q2 hq cB cI cJ cZ cR y9) → va_S A s.heap H locs → lv_has ls 4 [(0, .ref b), (1, .ref (q 0)), (2, .ref (q2 0)), (3, .int i3)] → W p l e room_1 s m #[Value.ref b] below meth c H locs (cells + 1) (slots + bud) (lw_Z below #[Value.ref b] s) (F0 m 993 ls []))
    (H : Heap) (locs : List Loc) (ls : Array Slot) (hP : va_P D vwCl (WX q hq cB cI cJ cZ cR x ++ WM q2 hq cB cI cJ cZ cR y) H) (hD : va_D A (WX q hq cB cI cJ cZ cR x ++ WM q2 hq cB cI cJ cZ cR y)) (hS : va_S A s.heap H locs) (hl : lv_has ls 4 [(0, .ref b), (1, .ref (q 0)), (2, .ref (q2 0)), (3, .int i3)]) : W p l e room_1 s m #[Value.ref b] below meth c H locs cells slots (lw_Z below #[Value.ref b] s) (F0 m 606 ls []) := by
  obtain ⟨hx, hb, hr, hml, hown, hts0, hX, hbl, hlocks, hgv⟩ := C0
  have hts : ∀ w ∈ wsL_law, w.before #[Value.ref b] s = true := fun w hw => hts0 w (wsL_law_in w hw)
  have hown : s.vm.findClass RL = some m.cls := hown
  unfold wpL_15 at h
  refine lv_aload_n hx hb dL_law_606 rfl (lv_at hl 1 rfl) ?_
  refine vX_I (As := []) (rest := []) ⟨hx, hb, hml, hown, hts⟩ (fX6_swap l D cB cI cJ cZ cR tz q hq x  (fun r9 x9 => wpM_15 y  r9 (Z x9)) h) (cwV 0 hts gL_law_X6_swap rfl rfl rfl hdX6_swap ⟨Nat.le_of_ble_eq_true rfl, Nat.le_of_ble_eq_true rfl⟩) hK hP hD hS hA hT 6 rfl rfl rfl rfl hl.1 (Nat.le_of_ble_eq_true rfl) dL_law_607 ⟨(show cells + 0 ≤ 600000 by omega), (show slots + 0 ≤ 7302250 by omega)⟩ (fun r1 x1 H locs h hP hD hS => ?_)
  refine lv_aload_n hx hb dL_law_610 rfl (lv_at hl 2 rfl) ?_
  unfold wpM_15 at h
  refine vM_I (As := []) (rest := [.int r1]) ⟨hx, hb, hml, hown, hts⟩ (fX7_swap l D cB cI cJ cZ cR tz q2 hq y  (fun r9 y9 => ((r1 = r9) → (Z x1 y9)) ∧ (¬ (r1 = r9) → False)) h) (cwV 0 hts gL_law_X7_swap rfl rfl rfl hdX7_swap ⟨Nat.le_of_ble_eq_true rfl, Nat.le_of_ble_eq_true rfl⟩) hK hP hD hS hA hT 7 rfl rfl rfl rfl hl.1 (Nat.le_of_ble_eq_true rfl) dL_law_611 ⟨(show cells + 0 + 0 ≤ 600000 by omega), (show slots + 0 + 0 ≤ 7302250 by omega)⟩ (fun r2 y1 H locs h hP hD hS => ?_)
  obtain ⟨hp9, hn9⟩ := h
  refine lv_icmp_eq (tgt := 993) hx hb dL_law_614 (by decide) (fun hc => ?_) (fun hc => (hn9 hc).elim)
  have h := hp9 hc
  refine W.widen (k := cells + 1) (n := slots + bud) (by omega) (by omega) ?_
  exact hn x1 y1 _ _ _ h hP hD hS hl
set_option maxHeartbeats 4000000 in
set_option maxRecDepth 100000 in
theorem lawc_16 {p : Program} {l : Launch} {e : Env} {s : State} {m : MethodId} {below : List Frame} {meth : Method} {c : Code} {D : va_G} {cB cI cJ cZ cR : ClassId} {tz b L : Nat} {sc : Nat → Int32} {A : Nat → Prop} (C0 : lw_At p s m meth c b L sc) (hA : ∀ q, s.heap.size ≤ q → A q) (hbA : ¬ A b) (hK : va_K D vwCl (vTy cB cI cJ cZ cR) s) (hT : vST tz A s s.heap) (q hq q2 : Nat → Nat) (x : XS) (y : MS) (i3 : Int32) (hi : ∀ d, d < 7 → vp_in (i3 + nI d) L) (bud cells slots : Nat) (hcs : cells + 1 ≤ 600000 ∧ slots + bud ≤ 7302250) (Z : XS → MS → Prop) (h : wpL_16 x y  bud Z)
    (hn : ∀ (x9 : XS) (y9 : MS) (H : Heap) (locs : List Loc) (ls : Array Slot), Z x9 y9 → va_P D vwCl (WX q hq cB cI cJ cZ cR x9 ++ WM q2 hq cB cI cJ cZ cR y9) H → va_D A (WX q hq cB cI cJ cZ cR x9 ++ WM q2 hq cB cI cJ cZ cR y9) → va_S A s.heap H locs → lv_has ls 4 [(0, .ref b), (1, .ref (q 0)), (2, .ref (q2 0)), (3, .int i3)] → W p l e room_1 s m #[Value.ref b] below meth c H locs (cells + 1) (slots + bud) (lw_Z below #[Value.ref b] s) (F0 m 993 ls []))
    (H : Heap) (locs : List Loc) (ls : Array Slot) (hP : va_P D vwCl (WX q hq cB cI cJ cZ cR x ++ WM q2 hq cB cI cJ cZ cR y) H) (hD : va_D A (WX q hq cB cI cJ cZ cR x ++ WM q2 hq cB cI cJ cZ cR y)) (hS : va_S A s.heap H locs) (hl : lv_has ls 4 [(0, .ref b), (1, .ref (q 0)), (2, .ref (q2 0)), (3, .int i3)]) : W p l e room_1 s m #[Value.ref b] below meth c H locs cells slots (lw_Z below #[Value.ref b] s) (F0 m 619 ls []) := by
  obtain ⟨hx, hb, hr, hml, hown, hts0, hX, hbl, hlocks, hgv⟩ := C0
  have hts : ∀ w ∈ wsL_law, w.before #[Value.ref b] s = true := fun w hw => hts0 w (wsL_law_in w hw)
  have hown : s.vm.findClass RL = some m.cls := hown
  unfold wpL_16 at h
  refine lv_aload_n hx hb dL_law_619 rfl (lv_at hl 1 rfl) ?_
  refine vX_I (As := []) (rest := []) ⟨hx, hb, hml, hown, hts⟩ (fX6_next l D cB cI cJ cZ cR tz q hq x  (fun r9 x9 => wpM_16 y  r9 (Z x9)) h) (cwV 0 hts gL_law_X6_next rfl rfl rfl hdX6_next ⟨Nat.le_of_ble_eq_true rfl, Nat.le_of_ble_eq_true rfl⟩) hK hP hD hS hA hT 6 rfl rfl rfl rfl hl.1 (Nat.le_of_ble_eq_true rfl) dL_law_620 ⟨(show cells + 0 ≤ 600000 by omega), (show slots + 0 ≤ 7302250 by omega)⟩ (fun r1 x1 H locs h hP hD hS => ?_)
  refine lv_aload_n hx hb dL_law_623 rfl (lv_at hl 2 rfl) ?_
  unfold wpM_16 at h
  refine vM_I (As := []) (rest := [.int r1]) ⟨hx, hb, hml, hown, hts⟩ (fX7_next l D cB cI cJ cZ cR tz q2 hq y  (fun r9 y9 => ((r1 = r9) → (Z x1 y9)) ∧ (¬ (r1 = r9) → False)) h) (cwV 0 hts gL_law_X7_next rfl rfl rfl hdX7_next ⟨Nat.le_of_ble_eq_true rfl, Nat.le_of_ble_eq_true rfl⟩) hK hP hD hS hA hT 7 rfl rfl rfl rfl hl.1 (Nat.le_of_ble_eq_true rfl) dL_law_624 ⟨(show cells + 0 + 0 ≤ 600000 by omega), (show slots + 0 + 0 ≤ 7302250 by omega)⟩ (fun r2 y1 H locs h hP hD hS => ?_)
  obtain ⟨hp9, hn9⟩ := h
  refine lv_icmp_eq (tgt := 993) hx hb dL_law_627 (by decide) (fun hc => ?_) (fun hc => (hn9 hc).elim)
  have h := hp9 hc
  refine W.widen (k := cells + 1) (n := slots + bud) (by omega) (by omega) ?_
  exact hn x1 y1 _ _ _ h hP hD hS hl
set_option maxHeartbeats 4000000 in
set_option maxRecDepth 100000 in
theorem lawc_17 {p : Program} {l : Launch} {e : Env} {s : State} {m : MethodId} {below : List Frame} {meth : Method} {c : Code} {D : va_G} {cB cI cJ cZ cR : ClassId} {tz b L : Nat} {sc : Nat → Int32} {A : Nat → Prop} (C0 : lw_At p s m meth c b L sc) (hA : ∀ q, s.heap.size ≤ q → A q) (hbA : ¬ A b) (hK : va_K D vwCl (vTy cB cI cJ cZ cR) s) (hT : vST tz A s s.heap) (q hq q2 : Nat → Nat) (x : XS) (y : MS) (i3 : Int32) (hi : ∀ d, d < 7 → vp_in (i3 + nI d) L) (bud cells slots : Nat) (hcs : cells + 1 ≤ 600000 ∧ slots + bud ≤ 7302250) (Z : XS → MS → Prop) (h : wpL_17 x y (sc ((i3 + (1 : Int32)).toNatClampNeg)) (sc ((i3 + (2 : Int32)).toNatClampNeg)) (sc ((i3 + (3 : Int32)).toNatClampNeg)) bud Z)
    (hn : ∀ (x9 : XS) (y9 : MS) (H : Heap) (locs : List Loc) (ls : Array Slot), Z x9 y9 → va_P D vwCl (WX q hq cB cI cJ cZ cR x9 ++ WM q2 hq cB cI cJ cZ cR y9) H → va_D A (WX q hq cB cI cJ cZ cR x9 ++ WM q2 hq cB cI cJ cZ cR y9) → va_S A s.heap H locs → lv_has ls 4 [(0, .ref b), (1, .ref (q 0)), (2, .ref (q2 0)), (3, .int i3)] → W p l e room_1 s m #[Value.ref b] below meth c H locs (cells + 1) (slots + bud) (lw_Z below #[Value.ref b] s) (F0 m 993 ls []))
    (H : Heap) (locs : List Loc) (ls : Array Slot) (hP : va_P D vwCl (WX q hq cB cI cJ cZ cR x ++ WM q2 hq cB cI cJ cZ cR y) H) (hD : va_D A (WX q hq cB cI cJ cZ cR x ++ WM q2 hq cB cI cJ cZ cR y)) (hS : va_S A s.heap H locs) (hl : lv_has ls 4 [(0, .ref b), (1, .ref (q 0)), (2, .ref (q2 0)), (3, .int i3)]) : W p l e room_1 s m #[Value.ref b] below meth c H locs cells slots (lw_Z below #[Value.ref b] s) (F0 m 632 ls []) := by
  obtain ⟨hx, hb, hr, hml, hown, hts0, hX, hbl, hlocks, hgv⟩ := C0
  have hts : ∀ w ∈ wsL_law, w.before #[Value.ref b] s = true := fun w hw => hts0 w (wsL_law_in w hw)
  have hown : s.vm.findClass RL = some m.cls := hown
  unfold wpL_17 at h
  refine lv_aload_n hx hb dL_law_632 rfl (lv_at hl 1 rfl) ?_
  refine lv_aload_n hx hb dL_law_633 rfl (lv_at hl 0 rfl) ?_
  refine lv_iload_n hx hb dL_law_634 rfl (lv_at hl 3 rfl) ?_
  refine lv_iconst (v := 1) hx hb dL_law_635 (by decide) ?_
  refine lv_iadd hx hb dL_law_636 ?_
  refine va_sld hx hb hX hbl hbA hS (hi 1 (by decide)) dL_law_637 ?_
  refine lv_aload_n hx hb dL_law_638 rfl (lv_at hl 0 rfl) ?_
  refine lv_iload_n hx hb dL_law_639 rfl (lv_at hl 3 rfl) ?_
  refine lv_iconst (v := 2) hx hb dL_law_640 (by decide) ?_
  refine lv_iadd hx hb dL_law_641 ?_
  refine va_sld hx hb hX hbl hbA hS (hi 2 (by decide)) dL_law_642 ?_
  refine lv_aload_n hx hb dL_law_643 rfl (lv_at hl 0 rfl) ?_
  refine lv_iload_n hx hb dL_law_644 rfl (lv_at hl 3 rfl) ?_
  refine lv_iconst (v := 3) hx hb dL_law_645 (by decide) ?_
  refine lv_iadd hx hb dL_law_646 ?_
  refine va_sld hx hb hX hbl hbA hS (hi 3 (by decide)) dL_law_647 ?_
  refine vX_I (As := [.int (sc ((i3 + (1 : Int32)).toNatClampNeg)), .int (sc ((i3 + (2 : Int32)).toNatClampNeg)), .int (sc ((i3 + (3 : Int32)).toNatClampNeg))]) (rest := []) ⟨hx, hb, hml, hown, hts⟩ (fX6_word l D cB cI cJ cZ cR tz q hq x (sc ((i3 + (1 : Int32)).toNatClampNeg)) (sc ((i3 + (2 : Int32)).toNatClampNeg)) (sc ((i3 + (3 : Int32)).toNatClampNeg)) (fun r9 x9 => wpM_17 y (sc ((i3 + (1 : Int32)).toNatClampNeg)) (sc ((i3 + (2 : Int32)).toNatClampNeg)) (sc ((i3 + (3 : Int32)).toNatClampNeg)) r9 (Z x9)) h) (cwV 3 hts gL_law_X6_word rfl rfl rfl hdX6_word ⟨Nat.le_of_ble_eq_true rfl, Nat.le_of_ble_eq_true rfl⟩) hK hP hD hS hA hT 6 rfl rfl rfl rfl hl.1 (Nat.le_of_ble_eq_true rfl) dL_law_648 ⟨(show cells + 0 ≤ 600000 by omega), (show slots + 0 ≤ 7302250 by omega)⟩ (fun r1 x1 H locs h hP hD hS => ?_)
  refine lv_aload_n hx hb dL_law_651 rfl (lv_at hl 2 rfl) ?_
  refine lv_aload_n hx hb dL_law_652 rfl (lv_at hl 0 rfl) ?_
  refine lv_iload_n hx hb dL_law_653 rfl (lv_at hl 3 rfl) ?_
  refine lv_iconst (v := 1) hx hb dL_law_654 (by decide) ?_
  refine lv_iadd hx hb dL_law_655 ?_
  refine va_sld hx hb hX hbl hbA hS (hi 1 (by decide)) dL_law_656 ?_
  refine lv_aload_n hx hb dL_law_657 rfl (lv_at hl 0 rfl) ?_
  refine lv_iload_n hx hb dL_law_658 rfl (lv_at hl 3 rfl) ?_
  refine lv_iconst (v := 2) hx hb dL_law_659 (by decide) ?_
  refine lv_iadd hx hb dL_law_660 ?_
  refine va_sld hx hb hX hbl hbA hS (hi 2 (by decide)) dL_law_661 ?_
  refine lv_aload_n hx hb dL_law_662 rfl (lv_at hl 0 rfl) ?_
  refine lv_iload_n hx hb dL_law_663 rfl (lv_at hl 3 rfl) ?_
  refine lv_iconst (v := 3) hx hb dL_law_664 (by decide) ?_
  refine lv_iadd hx hb dL_law_665 ?_
  refine va_sld hx hb hX hbl hbA hS (hi 3 (by decide)) dL_law_666 ?_
  unfold wpM_17 at h
  refine vM_I (As := [.int (sc ((i3 + (1 : Int32)).toNatClampNeg)), .int (sc ((i3 + (2 : Int32)).toNatClampNeg)), .int (sc ((i3 + (3 : Int32)).toNatClampNeg))]) (rest := [.int r1]) ⟨hx, hb, hml, hown, hts⟩ (fX7_word l D cB cI cJ cZ cR tz q2 hq y (sc ((i3 + (1 : Int32)).toNatClampNeg)) (sc ((i3 + (2 : Int32)).toNatClampNeg)) (sc ((i3 + (3 : Int32)).toNatClampNeg)) (fun r9 y9 => ((r1 = r9) → (Z x1 y9)) ∧ (¬ (r1 = r9) → False)) h) (cwV 3 hts gL_law_X7_word rfl rfl rfl hdX7_word ⟨Nat.le_of_ble_eq_true rfl, Nat.le_of_ble_eq_true rfl⟩) hK hP hD hS hA hT 7 rfl rfl rfl rfl hl.1 (Nat.le_of_ble_eq_true rfl) dL_law_667 ⟨(show cells + 0 + 0 ≤ 600000 by omega), (show slots + 0 + 0 ≤ 7302250 by omega)⟩ (fun r2 y1 H locs h hP hD hS => ?_)
  obtain ⟨hp9, hn9⟩ := h
  refine lv_icmp_eq (tgt := 993) hx hb dL_law_670 (by decide) (fun hc => ?_) (fun hc => (hn9 hc).elim)
  have h := hp9 hc
  refine W.widen (k := cells + 1) (n := slots + bud) (by omega) (by omega) ?_
  exact hn x1 y1 _ _ _ h hP hD hS hl
set_option maxHeartbeats 4000000 in
set_option maxRecDepth 100000 in
theorem lawc_18 {p : Program} {l : Launch} {e : Env} {s : State} {m : MethodId} {below : List Frame} {meth : Method} {c : Code} {D : va_G} {cB cI cJ cZ cR : ClassId} {tz b L : Nat} {sc : Nat → Int32} {A : Nat → Prop} (C0 : lw_At p s m meth c b L sc) (hA : ∀ q, s.heap.size ≤ q → A q) (hbA : ¬ A b) (hK : va_K D vwCl (vTy cB cI cJ cZ cR) s) (hT : vST tz A s s.heap) (q hq q2 : Nat → Nat) (x : XS) (y : MS) (i3 : Int32) (hi : ∀ d, d < 7 → vp_in (i3 + nI d) L) (bud cells slots : Nat) (hcs : cells + 1 ≤ 600000 ∧ slots + bud ≤ 7302250) (Z : XS → MS → Prop) (h : wpL_18 x y (sc ((i3 + (1 : Int32)).toNatClampNeg)) bud Z)
    (hn : ∀ (x9 : XS) (y9 : MS) (H : Heap) (locs : List Loc) (ls : Array Slot), Z x9 y9 → va_P D vwCl (WX q hq cB cI cJ cZ cR x9 ++ WM q2 hq cB cI cJ cZ cR y9) H → va_D A (WX q hq cB cI cJ cZ cR x9 ++ WM q2 hq cB cI cJ cZ cR y9) → va_S A s.heap H locs → lv_has ls 4 [(0, .ref b), (1, .ref (q 0)), (2, .ref (q2 0)), (3, .int i3)] → W p l e room_1 s m #[Value.ref b] below meth c H locs (cells + 1) (slots + bud) (lw_Z below #[Value.ref b] s) (F0 m 993 ls []))
    (H : Heap) (locs : List Loc) (ls : Array Slot) (hP : va_P D vwCl (WX q hq cB cI cJ cZ cR x ++ WM q2 hq cB cI cJ cZ cR y) H) (hD : va_D A (WX q hq cB cI cJ cZ cR x ++ WM q2 hq cB cI cJ cZ cR y)) (hS : va_S A s.heap H locs) (hl : lv_has ls 4 [(0, .ref b), (1, .ref (q 0)), (2, .ref (q2 0)), (3, .int i3)]) : W p l e room_1 s m #[Value.ref b] below meth c H locs cells slots (lw_Z below #[Value.ref b] s) (F0 m 675 ls []) := by
  obtain ⟨hx, hb, hr, hml, hown, hts0, hX, hbl, hlocks, hgv⟩ := C0
  have hts : ∀ w ∈ wsL_law, w.before #[Value.ref b] s = true := fun w hw => hts0 w (wsL_law_in w hw)
  have hown : s.vm.findClass RL = some m.cls := hown
  unfold wpL_18 at h
  refine lv_aload_n hx hb dL_law_675 rfl (lv_at hl 1 rfl) ?_
  refine lv_aload_n hx hb dL_law_676 rfl (lv_at hl 0 rfl) ?_
  refine lv_iload_n hx hb dL_law_677 rfl (lv_at hl 3 rfl) ?_
  refine lv_iconst (v := 1) hx hb dL_law_678 (by decide) ?_
  refine lv_iadd hx hb dL_law_679 ?_
  refine va_sld hx hb hX hbl hbA hS (hi 1 (by decide)) dL_law_680 ?_
  refine vX_I (As := [.int (sc ((i3 + (1 : Int32)).toNatClampNeg))]) (rest := []) ⟨hx, hb, hml, hown, hts⟩ (fX6_part l D cB cI cJ cZ cR tz q hq x (sc ((i3 + (1 : Int32)).toNatClampNeg)) (fun r9 x9 => wpM_18 y (sc ((i3 + (1 : Int32)).toNatClampNeg)) r9 (Z x9)) h) (cwV 1 hts gL_law_X6_part rfl rfl rfl hdX6_part ⟨Nat.le_of_ble_eq_true rfl, Nat.le_of_ble_eq_true rfl⟩) hK hP hD hS hA hT 6 rfl rfl rfl rfl hl.1 (Nat.le_of_ble_eq_true rfl) dL_law_681 ⟨(show cells + 0 ≤ 600000 by omega), (show slots + 0 ≤ 7302250 by omega)⟩ (fun r1 x1 H locs h hP hD hS => ?_)
  refine lv_aload_n hx hb dL_law_684 rfl (lv_at hl 2 rfl) ?_
  refine lv_aload_n hx hb dL_law_685 rfl (lv_at hl 0 rfl) ?_
  refine lv_iload_n hx hb dL_law_686 rfl (lv_at hl 3 rfl) ?_
  refine lv_iconst (v := 1) hx hb dL_law_687 (by decide) ?_
  refine lv_iadd hx hb dL_law_688 ?_
  refine va_sld hx hb hX hbl hbA hS (hi 1 (by decide)) dL_law_689 ?_
  unfold wpM_18 at h
  refine vM_I (As := [.int (sc ((i3 + (1 : Int32)).toNatClampNeg))]) (rest := [.int r1]) ⟨hx, hb, hml, hown, hts⟩ (fX7_part l D cB cI cJ cZ cR tz q2 hq y (sc ((i3 + (1 : Int32)).toNatClampNeg)) (fun r9 y9 => ((r1 = r9) → (Z x1 y9)) ∧ (¬ (r1 = r9) → False)) h) (cwV 1 hts gL_law_X7_part rfl rfl rfl hdX7_part ⟨Nat.le_of_ble_eq_true rfl, Nat.le_of_ble_eq_true rfl⟩) hK hP hD hS hA hT 7 rfl rfl rfl rfl hl.1 (Nat.le_of_ble_eq_true rfl) dL_law_690 ⟨(show cells + 0 + 0 ≤ 600000 by omega), (show slots + 0 + 0 ≤ 7302250 by omega)⟩ (fun r2 y1 H locs h hP hD hS => ?_)
  obtain ⟨hp9, hn9⟩ := h
  refine lv_icmp_eq (tgt := 993) hx hb dL_law_693 (by decide) (fun hc => ?_) (fun hc => (hn9 hc).elim)
  have h := hp9 hc
  refine W.widen (k := cells + 1) (n := slots + bud) (by omega) (by omega) ?_
  exact hn x1 y1 _ _ _ h hP hD hS hl
set_option maxHeartbeats 4000000 in
set_option maxRecDepth 100000 in
theorem lawc_19 {p : Program} {l : Launch} {e : Env} {s : State} {m : MethodId} {below : List Frame} {meth : Method} {c : Code} {D : va_G} {cB cI cJ cZ cR : ClassId} {tz b L : Nat} {sc : Nat → Int32} {A : Nat → Prop} (C0 : lw_At p s m meth c b L sc) (hA : ∀ q, s.heap.size ≤ q → A q) (hbA : ¬ A b) (hK : va_K D vwCl (vTy cB cI cJ cZ cR) s) (hT : vST tz A s s.heap) (q hq q2 : Nat → Nat) (x : XS) (y : MS) (i3 : Int32) (hi : ∀ d, d < 7 → vp_in (i3 + nI d) L) (bud cells slots : Nat) (hcs : cells + 1 ≤ 600000 ∧ slots + bud ≤ 7302250) (Z : XS → MS → Prop) (h : wpL_19 x y (sc ((i3 + (1 : Int32)).toNatClampNeg)) bud Z)
    (hn : ∀ (x9 : XS) (y9 : MS) (H : Heap) (locs : List Loc) (ls : Array Slot), Z x9 y9 → va_P D vwCl (WX q hq cB cI cJ cZ cR x9 ++ WM q2 hq cB cI cJ cZ cR y9) H → va_D A (WX q hq cB cI cJ cZ cR x9 ++ WM q2 hq cB cI cJ cZ cR y9) → va_S A s.heap H locs → lv_has ls 4 [(0, .ref b), (1, .ref (q 0)), (2, .ref (q2 0)), (3, .int i3)] → W p l e room_1 s m #[Value.ref b] below meth c H locs (cells + 1) (slots + bud) (lw_Z below #[Value.ref b] s) (F0 m 993 ls []))
    (H : Heap) (locs : List Loc) (ls : Array Slot) (hP : va_P D vwCl (WX q hq cB cI cJ cZ cR x ++ WM q2 hq cB cI cJ cZ cR y) H) (hD : va_D A (WX q hq cB cI cJ cZ cR x ++ WM q2 hq cB cI cJ cZ cR y)) (hS : va_S A s.heap H locs) (hl : lv_has ls 4 [(0, .ref b), (1, .ref (q 0)), (2, .ref (q2 0)), (3, .int i3)]) : W p l e room_1 s m #[Value.ref b] below meth c H locs cells slots (lw_Z below #[Value.ref b] s) (F0 m 698 ls []) := by
  obtain ⟨hx, hb, hr, hml, hown, hts0, hX, hbl, hlocks, hgv⟩ := C0
  have hts : ∀ w ∈ wsL_law, w.before #[Value.ref b] s = true := fun w hw => hts0 w (wsL_law_in w hw)
  have hown : s.vm.findClass RL = some m.cls := hown
  unfold wpL_19 at h
  refine lv_aload_n hx hb dL_law_698 rfl (lv_at hl 1 rfl) ?_
  refine lv_aload_n hx hb dL_law_699 rfl (lv_at hl 0 rfl) ?_
  refine lv_iload_n hx hb dL_law_700 rfl (lv_at hl 3 rfl) ?_
  refine lv_iconst (v := 1) hx hb dL_law_701 (by decide) ?_
  refine lv_iadd hx hb dL_law_702 ?_
  refine va_sld hx hb hX hbl hbA hS (hi 1 (by decide)) dL_law_703 ?_
  refine vX_I (As := [.int (sc ((i3 + (1 : Int32)).toNatClampNeg))]) (rest := []) ⟨hx, hb, hml, hown, hts⟩ (fX6_alike l D cB cI cJ cZ cR tz q hq x (sc ((i3 + (1 : Int32)).toNatClampNeg)) (fun r9 x9 => wpM_19 y (sc ((i3 + (1 : Int32)).toNatClampNeg)) r9 (Z x9)) h) (cwV 1 hts gL_law_X6_alike rfl rfl rfl hdX6_alike ⟨Nat.le_of_ble_eq_true rfl, Nat.le_of_ble_eq_true rfl⟩) hK hP hD hS hA hT 6 rfl rfl rfl rfl hl.1 (Nat.le_of_ble_eq_true rfl) dL_law_704 ⟨(show cells + 0 ≤ 600000 by omega), (show slots + 0 ≤ 7302250 by omega)⟩ (fun r1 x1 H locs h hP hD hS => ?_)
  refine lv_aload_n hx hb dL_law_707 rfl (lv_at hl 2 rfl) ?_
  refine lv_aload_n hx hb dL_law_708 rfl (lv_at hl 0 rfl) ?_
  refine lv_iload_n hx hb dL_law_709 rfl (lv_at hl 3 rfl) ?_
  refine lv_iconst (v := 1) hx hb dL_law_710 (by decide) ?_
  refine lv_iadd hx hb dL_law_711 ?_
  refine va_sld hx hb hX hbl hbA hS (hi 1 (by decide)) dL_law_712 ?_
  unfold wpM_19 at h
  refine vM_I (As := [.int (sc ((i3 + (1 : Int32)).toNatClampNeg))]) (rest := [.int r1]) ⟨hx, hb, hml, hown, hts⟩ (fX7_alike l D cB cI cJ cZ cR tz q2 hq y (sc ((i3 + (1 : Int32)).toNatClampNeg)) (fun r9 y9 => ((r1 = r9) → (Z x1 y9)) ∧ (¬ (r1 = r9) → False)) h) (cwV 1 hts gL_law_X7_alike rfl rfl rfl hdX7_alike ⟨Nat.le_of_ble_eq_true rfl, Nat.le_of_ble_eq_true rfl⟩) hK hP hD hS hA hT 7 rfl rfl rfl rfl hl.1 (Nat.le_of_ble_eq_true rfl) dL_law_713 ⟨(show cells + 0 + 0 ≤ 600000 by omega), (show slots + 0 + 0 ≤ 7302250 by omega)⟩ (fun r2 y1 H locs h hP hD hS => ?_)
  obtain ⟨hp9, hn9⟩ := h
  refine lv_icmp_eq (tgt := 993) hx hb dL_law_716 (by decide) (fun hc => ?_) (fun hc => (hn9 hc).elim)
  have h := hp9 hc
  refine W.widen (k := cells + 1) (n := slots + bud) (by omega) (by omega) ?_
  exact hn x1 y1 _ _ _ h hP hD hS hl
set_option maxHeartbeats 4000000 in
set_option maxRecDepth 100000 in
theorem lawc_20 {p : Program} {l : Launch} {e : Env} {s : State} {m : MethodId} {below : List Frame} {meth : Method} {c : Code} {D : va_G} {cB cI cJ cZ cR : ClassId} {tz b L : Nat} {sc : Nat → Int32} {A : Nat → Prop} (C0 : lw_At p s m meth c b L sc) (hA : ∀ q, s.heap.size ≤ q → A q) (hbA : ¬ A b) (hK : va_K D vwCl (vTy cB cI cJ cZ cR) s) (hT : vST tz A s s.heap) (q hq q2 : Nat → Nat) (x : XS) (y : MS) (i3 : Int32) (hi : ∀ d, d < 7 → vp_in (i3 + nI d) L) (bud cells slots : Nat) (hcs : cells + 1 ≤ 600000 ∧ slots + bud ≤ 7302250) (Z : XS → MS → Prop) (h : wpL_20 x y (sc ((i3 + (1 : Int32)).toNatClampNeg)) (sc ((i3 + (2 : Int32)).toNatClampNeg)) bud Z)
    (hn : ∀ (x9 : XS) (y9 : MS) (H : Heap) (locs : List Loc) (ls : Array Slot), Z x9 y9 → va_P D vwCl (WX q hq cB cI cJ cZ cR x9 ++ WM q2 hq cB cI cJ cZ cR y9) H → va_D A (WX q hq cB cI cJ cZ cR x9 ++ WM q2 hq cB cI cJ cZ cR y9) → va_S A s.heap H locs → lv_has ls 4 [(0, .ref b), (1, .ref (q 0)), (2, .ref (q2 0)), (3, .int i3)] → W p l e room_1 s m #[Value.ref b] below meth c H locs (cells + 1) (slots + bud) (lw_Z below #[Value.ref b] s) (F0 m 993 ls []))
    (H : Heap) (locs : List Loc) (ls : Array Slot) (hP : va_P D vwCl (WX q hq cB cI cJ cZ cR x ++ WM q2 hq cB cI cJ cZ cR y) H) (hD : va_D A (WX q hq cB cI cJ cZ cR x ++ WM q2 hq cB cI cJ cZ cR y)) (hS : va_S A s.heap H locs) (hl : lv_has ls 4 [(0, .ref b), (1, .ref (q 0)), (2, .ref (q2 0)), (3, .int i3)]) : W p l e room_1 s m #[Value.ref b] below meth c H locs cells slots (lw_Z below #[Value.ref b] s) (F0 m 721 ls []) := by
  obtain ⟨hx, hb, hr, hml, hown, hts0, hX, hbl, hlocks, hgv⟩ := C0
  have hts : ∀ w ∈ wsL_law, w.before #[Value.ref b] s = true := fun w hw => hts0 w (wsL_law_in w hw)
  have hown : s.vm.findClass RL = some m.cls := hown
  unfold wpL_20 at h
  refine lv_aload_n hx hb dL_law_721 rfl (lv_at hl 1 rfl) ?_
  refine lv_aload_n hx hb dL_law_722 rfl (lv_at hl 0 rfl) ?_
  refine lv_iload_n hx hb dL_law_723 rfl (lv_at hl 3 rfl) ?_
  refine lv_iconst (v := 1) hx hb dL_law_724 (by decide) ?_
  refine lv_iadd hx hb dL_law_725 ?_
  refine va_sld hx hb hX hbl hbA hS (hi 1 (by decide)) dL_law_726 ?_
  refine lv_aload_n hx hb dL_law_727 rfl (lv_at hl 0 rfl) ?_
  refine lv_iload_n hx hb dL_law_728 rfl (lv_at hl 3 rfl) ?_
  refine lv_iconst (v := 2) hx hb dL_law_729 (by decide) ?_
  refine lv_iadd hx hb dL_law_730 ?_
  refine va_sld hx hb hX hbl hbA hS (hi 2 (by decide)) dL_law_731 ?_
  refine vX_I (As := [.int (sc ((i3 + (1 : Int32)).toNatClampNeg)), .int (sc ((i3 + (2 : Int32)).toNatClampNeg))]) (rest := []) ⟨hx, hb, hml, hown, hts⟩ (fX6_alikeOf l D cB cI cJ cZ cR tz q hq x (sc ((i3 + (1 : Int32)).toNatClampNeg)) (sc ((i3 + (2 : Int32)).toNatClampNeg)) (fun r9 x9 => wpM_20 y (sc ((i3 + (1 : Int32)).toNatClampNeg)) (sc ((i3 + (2 : Int32)).toNatClampNeg)) r9 (Z x9)) h) (cwV 2 hts gL_law_X6_alikeOf rfl rfl rfl hdX6_alikeOf ⟨Nat.le_of_ble_eq_true rfl, Nat.le_of_ble_eq_true rfl⟩) hK hP hD hS hA hT 6 rfl rfl rfl rfl hl.1 (Nat.le_of_ble_eq_true rfl) dL_law_732 ⟨(show cells + 0 ≤ 600000 by omega), (show slots + 0 ≤ 7302250 by omega)⟩ (fun r1 x1 H locs h hP hD hS => ?_)
  refine lv_aload_n hx hb dL_law_735 rfl (lv_at hl 2 rfl) ?_
  refine lv_aload_n hx hb dL_law_736 rfl (lv_at hl 0 rfl) ?_
  refine lv_iload_n hx hb dL_law_737 rfl (lv_at hl 3 rfl) ?_
  refine lv_iconst (v := 1) hx hb dL_law_738 (by decide) ?_
  refine lv_iadd hx hb dL_law_739 ?_
  refine va_sld hx hb hX hbl hbA hS (hi 1 (by decide)) dL_law_740 ?_
  refine lv_aload_n hx hb dL_law_741 rfl (lv_at hl 0 rfl) ?_
  refine lv_iload_n hx hb dL_law_742 rfl (lv_at hl 3 rfl) ?_
  refine lv_iconst (v := 2) hx hb dL_law_743 (by decide) ?_
  refine lv_iadd hx hb dL_law_744 ?_
  refine va_sld hx hb hX hbl hbA hS (hi 2 (by decide)) dL_law_745 ?_
  unfold wpM_20 at h
  refine vM_I (As := [.int (sc ((i3 + (1 : Int32)).toNatClampNeg)), .int (sc ((i3 + (2 : Int32)).toNatClampNeg))]) (rest := [.int r1]) ⟨hx, hb, hml, hown, hts⟩ (fX7_alikeOf l D cB cI cJ cZ cR tz q2 hq y (sc ((i3 + (1 : Int32)).toNatClampNeg)) (sc ((i3 + (2 : Int32)).toNatClampNeg)) (fun r9 y9 => ((r1 = r9) → (Z x1 y9)) ∧ (¬ (r1 = r9) → False)) h) (cwV 2 hts gL_law_X7_alikeOf rfl rfl rfl hdX7_alikeOf ⟨Nat.le_of_ble_eq_true rfl, Nat.le_of_ble_eq_true rfl⟩) hK hP hD hS hA hT 7 rfl rfl rfl rfl hl.1 (Nat.le_of_ble_eq_true rfl) dL_law_746 ⟨(show cells + 0 + 0 ≤ 600000 by omega), (show slots + 0 + 0 ≤ 7302250 by omega)⟩ (fun r2 y1 H locs h hP hD hS => ?_)
  obtain ⟨hp9, hn9⟩ := h
  refine lv_icmp_eq (tgt := 993) hx hb dL_law_749 (by decide) (fun hc => ?_) (fun hc => (hn9 hc).elim)
  have h := hp9 hc
  refine W.widen (k := cells + 1) (n := slots + bud) (by omega) (by omega) ?_
  exact hn x1 y1 _ _ _ h hP hD hS hl
set_option maxHeartbeats 4000000 in
set_option maxRecDepth 100000 in
theorem lawc_21 {p : Program} {l : Launch} {e : Env} {s : State} {m : MethodId} {below : List Frame} {meth : Method} {c : Code} {D : va_G} {cB cI cJ cZ cR : ClassId} {tz b L : Nat} {sc : Nat → Int32} {A : Nat → Prop} (C0 : lw_At p s m meth c b L sc) (hA : ∀ q, s.heap.size ≤ q → A q) (hbA : ¬ A b) (hK : va_K D vwCl (vTy cB cI cJ cZ cR) s) (hT : vST tz A s s.heap) (q hq q2 : Nat → Nat) (x : XS) (y : MS) (i3 : Int32) (hi : ∀ d, d < 7 → vp_in (i3 + nI d) L) (bud cells slots : Nat) (hcs : cells + 1 ≤ 600000 ∧ slots + bud ≤ 7302250) (Z : XS → MS → Prop) (h : wpL_21 x y (sc ((i3 + (1 : Int32)).toNatClampNeg)) bud Z)
    (hn : ∀ (x9 : XS) (y9 : MS) (H : Heap) (locs : List Loc) (ls : Array Slot), Z x9 y9 → va_P D vwCl (WX q hq cB cI cJ cZ cR x9 ++ WM q2 hq cB cI cJ cZ cR y9) H → va_D A (WX q hq cB cI cJ cZ cR x9 ++ WM q2 hq cB cI cJ cZ cR y9) → va_S A s.heap H locs → lv_has ls 4 [(0, .ref b), (1, .ref (q 0)), (2, .ref (q2 0)), (3, .int i3)] → W p l e room_1 s m #[Value.ref b] below meth c H locs (cells + 1) (slots + bud) (lw_Z below #[Value.ref b] s) (F0 m 993 ls []))
    (H : Heap) (locs : List Loc) (ls : Array Slot) (hP : va_P D vwCl (WX q hq cB cI cJ cZ cR x ++ WM q2 hq cB cI cJ cZ cR y) H) (hD : va_D A (WX q hq cB cI cJ cZ cR x ++ WM q2 hq cB cI cJ cZ cR y)) (hS : va_S A s.heap H locs) (hl : lv_has ls 4 [(0, .ref b), (1, .ref (q 0)), (2, .ref (q2 0)), (3, .int i3)]) : W p l e room_1 s m #[Value.ref b] below meth c H locs cells slots (lw_Z below #[Value.ref b] s) (F0 m 754 ls []) := by
  obtain ⟨hx, hb, hr, hml, hown, hts0, hX, hbl, hlocks, hgv⟩ := C0
  have hts : ∀ w ∈ wsL_law, w.before #[Value.ref b] s = true := fun w hw => hts0 w (wsL_law_in w hw)
  have hown : s.vm.findClass RL = some m.cls := hown
  unfold wpL_21 at h
  refine lv_aload_n hx hb dL_law_754 rfl (lv_at hl 1 rfl) ?_
  refine lv_aload_n hx hb dL_law_755 rfl (lv_at hl 0 rfl) ?_
  refine lv_iload_n hx hb dL_law_756 rfl (lv_at hl 3 rfl) ?_
  refine lv_iconst (v := 1) hx hb dL_law_757 (by decide) ?_
  refine lv_iadd hx hb dL_law_758 ?_
  refine va_sld hx hb hX hbl hbA hS (hi 1 (by decide)) dL_law_759 ?_
  refine vX_I (As := [.int (sc ((i3 + (1 : Int32)).toNatClampNeg))]) (rest := []) ⟨hx, hb, hml, hown, hts⟩ (fX6_length l D cB cI cJ cZ cR tz q hq x (sc ((i3 + (1 : Int32)).toNatClampNeg)) (fun r9 x9 => wpM_21 y (sc ((i3 + (1 : Int32)).toNatClampNeg)) r9 (Z x9)) h) (cwV 1 hts gL_law_X6_length rfl rfl rfl hdX6_length ⟨Nat.le_of_ble_eq_true rfl, Nat.le_of_ble_eq_true rfl⟩) hK hP hD hS hA hT 6 rfl rfl rfl rfl hl.1 (Nat.le_of_ble_eq_true rfl) dL_law_760 ⟨(show cells + 0 ≤ 600000 by omega), (show slots + 0 ≤ 7302250 by omega)⟩ (fun r1 x1 H locs h hP hD hS => ?_)
  refine lv_aload_n hx hb dL_law_763 rfl (lv_at hl 2 rfl) ?_
  refine lv_aload_n hx hb dL_law_764 rfl (lv_at hl 0 rfl) ?_
  refine lv_iload_n hx hb dL_law_765 rfl (lv_at hl 3 rfl) ?_
  refine lv_iconst (v := 1) hx hb dL_law_766 (by decide) ?_
  refine lv_iadd hx hb dL_law_767 ?_
  refine va_sld hx hb hX hbl hbA hS (hi 1 (by decide)) dL_law_768 ?_
  unfold wpM_21 at h
  refine vM_I (As := [.int (sc ((i3 + (1 : Int32)).toNatClampNeg))]) (rest := [.int r1]) ⟨hx, hb, hml, hown, hts⟩ (fX7_length l D cB cI cJ cZ cR tz q2 hq y (sc ((i3 + (1 : Int32)).toNatClampNeg)) (fun r9 y9 => ((r1 = r9) → (Z x1 y9)) ∧ (¬ (r1 = r9) → False)) h) (cwV 1 hts gL_law_X7_length rfl rfl rfl hdX7_length ⟨Nat.le_of_ble_eq_true rfl, Nat.le_of_ble_eq_true rfl⟩) hK hP hD hS hA hT 7 rfl rfl rfl rfl hl.1 (Nat.le_of_ble_eq_true rfl) dL_law_769 ⟨(show cells + 0 + 0 ≤ 600000 by omega), (show slots + 0 + 0 ≤ 7302250 by omega)⟩ (fun r2 y1 H locs h hP hD hS => ?_)
  obtain ⟨hp9, hn9⟩ := h
  refine lv_icmp_eq (tgt := 993) hx hb dL_law_772 (by decide) (fun hc => ?_) (fun hc => (hn9 hc).elim)
  have h := hp9 hc
  refine W.widen (k := cells + 1) (n := slots + bud) (by omega) (by omega) ?_
  exact hn x1 y1 _ _ _ h hP hD hS hl
set_option maxHeartbeats 4000000 in
set_option maxRecDepth 100000 in
theorem lawc_22 {p : Program} {l : Launch} {e : Env} {s : State} {m : MethodId} {below : List Frame} {meth : Method} {c : Code} {D : va_G} {cB cI cJ cZ cR : ClassId} {tz b L : Nat} {sc : Nat → Int32} {A : Nat → Prop} (C0 : lw_At p s m meth c b L sc) (hA : ∀ q, s.heap.size ≤ q → A q) (hbA : ¬ A b) (hK : va_K D vwCl (vTy cB cI cJ cZ cR) s) (hT : vST tz A s s.heap) (q hq q2 : Nat → Nat) (x : XS) (y : MS) (i3 : Int32) (hi : ∀ d, d < 7 → vp_in (i3 + nI d) L) (bud cells slots : Nat) (hcs : cells + 1 ≤ 600000 ∧ slots + bud ≤ 7302250) (Z : XS → MS → Prop) (h : wpL_22 x y (sc ((i3 + (1 : Int32)).toNatClampNeg)) bud Z)
    (hn : ∀ (x9 : XS) (y9 : MS) (H : Heap) (locs : List Loc) (ls : Array Slot), Z x9 y9 → va_P D vwCl (WX q hq cB cI cJ cZ cR x9 ++ WM q2 hq cB cI cJ cZ cR y9) H → va_D A (WX q hq cB cI cJ cZ cR x9 ++ WM q2 hq cB cI cJ cZ cR y9) → va_S A s.heap H locs → lv_has ls 4 [(0, .ref b), (1, .ref (q 0)), (2, .ref (q2 0)), (3, .int i3)] → W p l e room_1 s m #[Value.ref b] below meth c H locs (cells + 1) (slots + bud) (lw_Z below #[Value.ref b] s) (F0 m 993 ls []))
    (H : Heap) (locs : List Loc) (ls : Array Slot) (hP : va_P D vwCl (WX q hq cB cI cJ cZ cR x ++ WM q2 hq cB cI cJ cZ cR y) H) (hD : va_D A (WX q hq cB cI cJ cZ cR x ++ WM q2 hq cB cI cJ cZ cR y)) (hS : va_S A s.heap H locs) (hl : lv_has ls 4 [(0, .ref b), (1, .ref (q 0)), (2, .ref (q2 0)), (3, .int i3)]) : W p l e room_1 s m #[Value.ref b] below meth c H locs cells slots (lw_Z below #[Value.ref b] s) (F0 m 777 ls []) := by
  obtain ⟨hx, hb, hr, hml, hown, hts0, hX, hbl, hlocks, hgv⟩ := C0
  have hts : ∀ w ∈ wsL_law, w.before #[Value.ref b] s = true := fun w hw => hts0 w (wsL_law_in w hw)
  have hown : s.vm.findClass RL = some m.cls := hown
  unfold wpL_22 at h
  refine lv_aload_n hx hb dL_law_777 rfl (lv_at hl 1 rfl) ?_
  refine lv_aload_n hx hb dL_law_778 rfl (lv_at hl 0 rfl) ?_
  refine lv_iload_n hx hb dL_law_779 rfl (lv_at hl 3 rfl) ?_
  refine lv_iconst (v := 1) hx hb dL_law_780 (by decide) ?_
  refine lv_iadd hx hb dL_law_781 ?_
  refine va_sld hx hb hX hbl hbA hS (hi 1 (by decide)) dL_law_782 ?_
  refine vX_I (As := [.int (sc ((i3 + (1 : Int32)).toNatClampNeg))]) (rest := []) ⟨hx, hb, hml, hown, hts⟩ (fX6_bestPart l D cB cI cJ cZ cR tz q hq x (sc ((i3 + (1 : Int32)).toNatClampNeg)) (fun r9 x9 => wpM_22 y (sc ((i3 + (1 : Int32)).toNatClampNeg)) r9 (Z x9)) h) (cwV 1 hts gL_law_X6_bestPart rfl rfl rfl hdX6_bestPart ⟨Nat.le_of_ble_eq_true rfl, Nat.le_of_ble_eq_true rfl⟩) hK hP hD hS hA hT 6 rfl rfl rfl rfl hl.1 (Nat.le_of_ble_eq_true rfl) dL_law_783 ⟨(show cells + 0 ≤ 600000 by omega), (show slots + 0 ≤ 7302250 by omega)⟩ (fun r1 x1 H locs h hP hD hS => ?_)
  refine lv_aload_n hx hb dL_law_786 rfl (lv_at hl 2 rfl) ?_
  refine lv_aload_n hx hb dL_law_787 rfl (lv_at hl 0 rfl) ?_
  refine lv_iload_n hx hb dL_law_788 rfl (lv_at hl 3 rfl) ?_
  refine lv_iconst (v := 1) hx hb dL_law_789 (by decide) ?_
  refine lv_iadd hx hb dL_law_790 ?_
  refine va_sld hx hb hX hbl hbA hS (hi 1 (by decide)) dL_law_791 ?_
  unfold wpM_22 at h
  refine vM_I (As := [.int (sc ((i3 + (1 : Int32)).toNatClampNeg))]) (rest := [.int r1]) ⟨hx, hb, hml, hown, hts⟩ (fX7_bestPart l D cB cI cJ cZ cR tz q2 hq y (sc ((i3 + (1 : Int32)).toNatClampNeg)) (fun r9 y9 => ((r1 = r9) → (Z x1 y9)) ∧ (¬ (r1 = r9) → False)) h) (cwV 1 hts gL_law_X7_bestPart rfl rfl rfl hdX7_bestPart ⟨Nat.le_of_ble_eq_true rfl, Nat.le_of_ble_eq_true rfl⟩) hK hP hD hS hA hT 7 rfl rfl rfl rfl hl.1 (Nat.le_of_ble_eq_true rfl) dL_law_792 ⟨(show cells + 0 + 0 ≤ 600000 by omega), (show slots + 0 + 0 ≤ 7302250 by omega)⟩ (fun r2 y1 H locs h hP hD hS => ?_)
  obtain ⟨hp9, hn9⟩ := h
  refine lv_icmp_eq (tgt := 993) hx hb dL_law_795 (by decide) (fun hc => ?_) (fun hc => (hn9 hc).elim)
  have h := hp9 hc
  refine W.widen (k := cells + 1) (n := slots + bud) (by omega) (by omega) ?_
  exact hn x1 y1 _ _ _ h hP hD hS hl
set_option maxHeartbeats 4000000 in
set_option maxRecDepth 100000 in
theorem lawc_23 {p : Program} {l : Launch} {e : Env} {s : State} {m : MethodId} {below : List Frame} {meth : Method} {c : Code} {D : va_G} {cB cI cJ cZ cR : ClassId} {tz b L : Nat} {sc : Nat → Int32} {A : Nat → Prop} (C0 : lw_At p s m meth c b L sc) (hA : ∀ q, s.heap.size ≤ q → A q) (hbA : ¬ A b) (hK : va_K D vwCl (vTy cB cI cJ cZ cR) s) (hT : vST tz A s s.heap) (q hq q2 : Nat → Nat) (x : XS) (y : MS) (i3 : Int32) (hi : ∀ d, d < 7 → vp_in (i3 + nI d) L) (bud cells slots : Nat) (hcs : cells + 1 ≤ 600000 ∧ slots + bud ≤ 7302250) (Z : XS → MS → Prop) (h : wpL_23 x y  bud Z)
    (hn : ∀ (x9 : XS) (y9 : MS) (H : Heap) (locs : List Loc) (ls : Array Slot), Z x9 y9 → va_P D vwCl (WX q hq cB cI cJ cZ cR x9 ++ WM q2 hq cB cI cJ cZ cR y9) H → va_D A (WX q hq cB cI cJ cZ cR x9 ++ WM q2 hq cB cI cJ cZ cR y9) → va_S A s.heap H locs → lv_has ls 4 [(0, .ref b), (1, .ref (q 0)), (2, .ref (q2 0)), (3, .int i3)] → W p l e room_1 s m #[Value.ref b] below meth c H locs (cells + 1) (slots + bud) (lw_Z below #[Value.ref b] s) (F0 m 993 ls []))
    (H : Heap) (locs : List Loc) (ls : Array Slot) (hP : va_P D vwCl (WX q hq cB cI cJ cZ cR x ++ WM q2 hq cB cI cJ cZ cR y) H) (hD : va_D A (WX q hq cB cI cJ cZ cR x ++ WM q2 hq cB cI cJ cZ cR y)) (hS : va_S A s.heap H locs) (hl : lv_has ls 4 [(0, .ref b), (1, .ref (q 0)), (2, .ref (q2 0)), (3, .int i3)]) : W p l e room_1 s m #[Value.ref b] below meth c H locs cells slots (lw_Z below #[Value.ref b] s) (F0 m 800 ls []) := by
  obtain ⟨hx, hb, hr, hml, hown, hts0, hX, hbl, hlocks, hgv⟩ := C0
  have hts : ∀ w ∈ wsL_law, w.before #[Value.ref b] s = true := fun w hw => hts0 w (wsL_law_in w hw)
  have hown : s.vm.findClass RL = some m.cls := hown
  unfold wpL_23 at h
  refine lv_aload_n hx hb dL_law_800 rfl (lv_at hl 1 rfl) ?_
  refine vX_I (As := []) (rest := []) ⟨hx, hb, hml, hown, hts⟩ (fX6_chain l D cB cI cJ cZ cR tz q hq x  bud (fun r9 x9 => wpM_23 y  r9 (Z x9)) h) (cwV 0 hts gL_law_X6_chain rfl rfl rfl hdX6_chain ⟨Nat.le_of_ble_eq_true rfl, Nat.le_of_ble_eq_true rfl⟩) hK hP hD hS hA hT 6 rfl rfl rfl rfl hl.1 (Nat.le_of_ble_eq_true rfl) dL_law_801 ⟨(show cells + 1 ≤ 600000 by omega), (show slots + bud ≤ 7302250 by omega)⟩ (fun r1 x1 H locs h hP hD hS => ?_)
  refine lv_aload_n hx hb dL_law_804 rfl (lv_at hl 2 rfl) ?_
  unfold wpM_23 at h
  refine vM_I (As := []) (rest := [.int r1]) ⟨hx, hb, hml, hown, hts⟩ (fX7_chain l D cB cI cJ cZ cR tz q2 hq y  (fun r9 y9 => ((r1 = r9) → (Z x1 y9)) ∧ (¬ (r1 = r9) → False)) h) (cwV 0 hts gL_law_X7_chain rfl rfl rfl hdX7_chain ⟨Nat.le_of_ble_eq_true rfl, Nat.le_of_ble_eq_true rfl⟩) hK hP hD hS hA hT 7 rfl rfl rfl rfl hl.1 (Nat.le_of_ble_eq_true rfl) dL_law_805 ⟨(show cells + 1 + 0 ≤ 600000 by omega), (show slots + bud + 0 ≤ 7302250 by omega)⟩ (fun r2 y1 H locs h hP hD hS => ?_)
  obtain ⟨hp9, hn9⟩ := h
  refine lv_icmp_eq (tgt := 993) hx hb dL_law_808 (by decide) (fun hc => ?_) (fun hc => (hn9 hc).elim)
  have h := hp9 hc
  refine W.widen (k := cells + 1) (n := slots + bud) (by omega) (by omega) ?_
  exact hn x1 y1 _ _ _ h hP hD hS hl
set_option maxHeartbeats 4000000 in
set_option maxRecDepth 100000 in
theorem lawc_24 {p : Program} {l : Launch} {e : Env} {s : State} {m : MethodId} {below : List Frame} {meth : Method} {c : Code} {D : va_G} {cB cI cJ cZ cR : ClassId} {tz b L : Nat} {sc : Nat → Int32} {A : Nat → Prop} (C0 : lw_At p s m meth c b L sc) (hA : ∀ q, s.heap.size ≤ q → A q) (hbA : ¬ A b) (hK : va_K D vwCl (vTy cB cI cJ cZ cR) s) (hT : vST tz A s s.heap) (q hq q2 : Nat → Nat) (x : XS) (y : MS) (i3 : Int32) (hi : ∀ d, d < 7 → vp_in (i3 + nI d) L) (bud cells slots : Nat) (hcs : cells + 1 ≤ 600000 ∧ slots + bud ≤ 7302250) (Z : XS → MS → Prop) (h : wpL_24 x y (sc ((i3 + (1 : Int32)).toNatClampNeg)) bud Z)
    (hn : ∀ (x9 : XS) (y9 : MS) (H : Heap) (locs : List Loc) (ls : Array Slot), Z x9 y9 → va_P D vwCl (WX q hq cB cI cJ cZ cR x9 ++ WM q2 hq cB cI cJ cZ cR y9) H → va_D A (WX q hq cB cI cJ cZ cR x9 ++ WM q2 hq cB cI cJ cZ cR y9) → va_S A s.heap H locs → lv_has ls 4 [(0, .ref b), (1, .ref (q 0)), (2, .ref (q2 0)), (3, .int i3)] → W p l e room_1 s m #[Value.ref b] below meth c H locs (cells + 1) (slots + bud) (lw_Z below #[Value.ref b] s) (F0 m 993 ls []))
    (H : Heap) (locs : List Loc) (ls : Array Slot) (hP : va_P D vwCl (WX q hq cB cI cJ cZ cR x ++ WM q2 hq cB cI cJ cZ cR y) H) (hD : va_D A (WX q hq cB cI cJ cZ cR x ++ WM q2 hq cB cI cJ cZ cR y)) (hS : va_S A s.heap H locs) (hl : lv_has ls 4 [(0, .ref b), (1, .ref (q 0)), (2, .ref (q2 0)), (3, .int i3)]) : W p l e room_1 s m #[Value.ref b] below meth c H locs cells slots (lw_Z below #[Value.ref b] s) (F0 m 813 ls []) := by
  obtain ⟨hx, hb, hr, hml, hown, hts0, hX, hbl, hlocks, hgv⟩ := C0
  have hts : ∀ w ∈ wsL_law, w.before #[Value.ref b] s = true := fun w hw => hts0 w (wsL_law_in w hw)
  have hown : s.vm.findClass RL = some m.cls := hown
  unfold wpL_24 at h
  refine lv_aload_n hx hb dL_law_813 rfl (lv_at hl 1 rfl) ?_
  refine lv_aload_n hx hb dL_law_814 rfl (lv_at hl 0 rfl) ?_
  refine lv_iload_n hx hb dL_law_815 rfl (lv_at hl 3 rfl) ?_
  refine lv_iconst (v := 1) hx hb dL_law_816 (by decide) ?_
  refine lv_iadd hx hb dL_law_817 ?_
  refine va_sld hx hb hX hbl hbA hS (hi 1 (by decide)) dL_law_818 ?_
  refine vX_I (As := [.int (sc ((i3 + (1 : Int32)).toNatClampNeg))]) (rest := []) ⟨hx, hb, hml, hown, hts⟩ (fX6_chainOf l D cB cI cJ cZ cR tz q hq x (sc ((i3 + (1 : Int32)).toNatClampNeg)) bud (fun r9 x9 => wpM_24 y (sc ((i3 + (1 : Int32)).toNatClampNeg)) r9 (Z x9)) h) (cwV 1 hts gL_law_X6_chainOf rfl rfl rfl hdX6_chainOf ⟨Nat.le_of_ble_eq_true rfl, Nat.le_of_ble_eq_true rfl⟩) hK hP hD hS hA hT 6 rfl rfl rfl rfl hl.1 (Nat.le_of_ble_eq_true rfl) dL_law_819 ⟨(show cells + 1 ≤ 600000 by omega), (show slots + bud ≤ 7302250 by omega)⟩ (fun r1 x1 H locs h hP hD hS => ?_)
  refine lv_aload_n hx hb dL_law_822 rfl (lv_at hl 2 rfl) ?_
  refine lv_aload_n hx hb dL_law_823 rfl (lv_at hl 0 rfl) ?_
  refine lv_iload_n hx hb dL_law_824 rfl (lv_at hl 3 rfl) ?_
  refine lv_iconst (v := 1) hx hb dL_law_825 (by decide) ?_
  refine lv_iadd hx hb dL_law_826 ?_
  refine va_sld hx hb hX hbl hbA hS (hi 1 (by decide)) dL_law_827 ?_
  unfold wpM_24 at h
  refine vM_I (As := [.int (sc ((i3 + (1 : Int32)).toNatClampNeg))]) (rest := [.int r1]) ⟨hx, hb, hml, hown, hts⟩ (fX7_chainOf l D cB cI cJ cZ cR tz q2 hq y (sc ((i3 + (1 : Int32)).toNatClampNeg)) (fun r9 y9 => ((r1 = r9) → (Z x1 y9)) ∧ (¬ (r1 = r9) → False)) h) (cwV 1 hts gL_law_X7_chainOf rfl rfl rfl hdX7_chainOf ⟨Nat.le_of_ble_eq_true rfl, Nat.le_of_ble_eq_true rfl⟩) hK hP hD hS hA hT 7 rfl rfl rfl rfl hl.1 (Nat.le_of_ble_eq_true rfl) dL_law_828 ⟨(show cells + 1 + 0 ≤ 600000 by omega), (show slots + bud + 0 ≤ 7302250 by omega)⟩ (fun r2 y1 H locs h hP hD hS => ?_)
  obtain ⟨hp9, hn9⟩ := h
  refine lv_icmp_eq (tgt := 993) hx hb dL_law_831 (by decide) (fun hc => ?_) (fun hc => (hn9 hc).elim)
  have h := hp9 hc
  refine W.widen (k := cells + 1) (n := slots + bud) (by omega) (by omega) ?_
  exact hn x1 y1 _ _ _ h hP hD hS hl
set_option maxHeartbeats 4000000 in
set_option maxRecDepth 100000 in
theorem lawc_25 {p : Program} {l : Launch} {e : Env} {s : State} {m : MethodId} {below : List Frame} {meth : Method} {c : Code} {D : va_G} {cB cI cJ cZ cR : ClassId} {tz b L : Nat} {sc : Nat → Int32} {A : Nat → Prop} (C0 : lw_At p s m meth c b L sc) (hA : ∀ q, s.heap.size ≤ q → A q) (hbA : ¬ A b) (hK : va_K D vwCl (vTy cB cI cJ cZ cR) s) (hT : vST tz A s s.heap) (q hq q2 : Nat → Nat) (x : XS) (y : MS) (i3 : Int32) (hi : ∀ d, d < 7 → vp_in (i3 + nI d) L) (bud cells slots : Nat) (hcs : cells + 1 ≤ 600000 ∧ slots + bud ≤ 7302250) (Z : XS → MS → Prop) (h : wpL_25 x y (sc ((i3 + (1 : Int32)).toNatClampNeg)) (sc ((i3 + (2 : Int32)).toNatClampNeg)) bud Z)
    (hn : ∀ (x9 : XS) (y9 : MS) (H : Heap) (locs : List Loc) (ls : Array Slot), Z x9 y9 → va_P D vwCl (WX q hq cB cI cJ cZ cR x9 ++ WM q2 hq cB cI cJ cZ cR y9) H → va_D A (WX q hq cB cI cJ cZ cR x9 ++ WM q2 hq cB cI cJ cZ cR y9) → va_S A s.heap H locs → lv_has ls 4 [(0, .ref b), (1, .ref (q 0)), (2, .ref (q2 0)), (3, .int i3)] → W p l e room_1 s m #[Value.ref b] below meth c H locs (cells + 1) (slots + bud) (lw_Z below #[Value.ref b] s) (F0 m 993 ls []))
    (H : Heap) (locs : List Loc) (ls : Array Slot) (hP : va_P D vwCl (WX q hq cB cI cJ cZ cR x ++ WM q2 hq cB cI cJ cZ cR y) H) (hD : va_D A (WX q hq cB cI cJ cZ cR x ++ WM q2 hq cB cI cJ cZ cR y)) (hS : va_S A s.heap H locs) (hl : lv_has ls 4 [(0, .ref b), (1, .ref (q 0)), (2, .ref (q2 0)), (3, .int i3)]) : W p l e room_1 s m #[Value.ref b] below meth c H locs cells slots (lw_Z below #[Value.ref b] s) (F0 m 836 ls []) := by
  obtain ⟨hx, hb, hr, hml, hown, hts0, hX, hbl, hlocks, hgv⟩ := C0
  have hts : ∀ w ∈ wsL_law, w.before #[Value.ref b] s = true := fun w hw => hts0 w (wsL_law_in w hw)
  have hown : s.vm.findClass RL = some m.cls := hown
  unfold wpL_25 at h
  refine lv_aload_n hx hb dL_law_836 rfl (lv_at hl 1 rfl) ?_
  refine lv_aload_n hx hb dL_law_837 rfl (lv_at hl 0 rfl) ?_
  refine lv_iload_n hx hb dL_law_838 rfl (lv_at hl 3 rfl) ?_
  refine lv_iconst (v := 1) hx hb dL_law_839 (by decide) ?_
  refine lv_iadd hx hb dL_law_840 ?_
  refine va_sld hx hb hX hbl hbA hS (hi 1 (by decide)) dL_law_841 ?_
  refine lv_aload_n hx hb dL_law_842 rfl (lv_at hl 0 rfl) ?_
  refine lv_iload_n hx hb dL_law_843 rfl (lv_at hl 3 rfl) ?_
  refine lv_iconst (v := 2) hx hb dL_law_844 (by decide) ?_
  refine lv_iadd hx hb dL_law_845 ?_
  refine va_sld hx hb hX hbl hbA hS (hi 2 (by decide)) dL_law_846 ?_
  refine vX_I (As := [.int (sc ((i3 + (1 : Int32)).toNatClampNeg)), .int (sc ((i3 + (2 : Int32)).toNatClampNeg))]) (rest := []) ⟨hx, hb, hml, hown, hts⟩ (fX6_see l D cB cI cJ cZ cR tz q hq x (sc ((i3 + (1 : Int32)).toNatClampNeg)) (sc ((i3 + (2 : Int32)).toNatClampNeg)) (fun r9 x9 => wpM_25 y (sc ((i3 + (1 : Int32)).toNatClampNeg)) (sc ((i3 + (2 : Int32)).toNatClampNeg)) r9 (Z x9)) h) (cwV 2 hts gL_law_X6_see rfl rfl rfl hdX6_see ⟨Nat.le_of_ble_eq_true rfl, Nat.le_of_ble_eq_true rfl⟩) hK hP hD hS hA hT 6 rfl rfl rfl rfl hl.1 (Nat.le_of_ble_eq_true rfl) dL_law_847 ⟨(show cells + 0 ≤ 600000 by omega), (show slots + 0 ≤ 7302250 by omega)⟩ (fun r1 x1 H locs h hP hD hS => ?_)
  refine lv_aload_n hx hb dL_law_850 rfl (lv_at hl 2 rfl) ?_
  refine lv_aload_n hx hb dL_law_851 rfl (lv_at hl 0 rfl) ?_
  refine lv_iload_n hx hb dL_law_852 rfl (lv_at hl 3 rfl) ?_
  refine lv_iconst (v := 1) hx hb dL_law_853 (by decide) ?_
  refine lv_iadd hx hb dL_law_854 ?_
  refine va_sld hx hb hX hbl hbA hS (hi 1 (by decide)) dL_law_855 ?_
  refine lv_aload_n hx hb dL_law_856 rfl (lv_at hl 0 rfl) ?_
  refine lv_iload_n hx hb dL_law_857 rfl (lv_at hl 3 rfl) ?_
  refine lv_iconst (v := 2) hx hb dL_law_858 (by decide) ?_
  refine lv_iadd hx hb dL_law_859 ?_
  refine va_sld hx hb hX hbl hbA hS (hi 2 (by decide)) dL_law_860 ?_
  unfold wpM_25 at h
  refine vM_I (As := [.int (sc ((i3 + (1 : Int32)).toNatClampNeg)), .int (sc ((i3 + (2 : Int32)).toNatClampNeg))]) (rest := [.int r1]) ⟨hx, hb, hml, hown, hts⟩ (fX7_see l D cB cI cJ cZ cR tz q2 hq y (sc ((i3 + (1 : Int32)).toNatClampNeg)) (sc ((i3 + (2 : Int32)).toNatClampNeg)) (fun r9 y9 => ((r1 = r9) → (Z x1 y9)) ∧ (¬ (r1 = r9) → False)) h) (cwV 2 hts gL_law_X7_see rfl rfl rfl hdX7_see ⟨Nat.le_of_ble_eq_true rfl, Nat.le_of_ble_eq_true rfl⟩) hK hP hD hS hA hT 7 rfl rfl rfl rfl hl.1 (Nat.le_of_ble_eq_true rfl) dL_law_861 ⟨(show cells + 0 + 0 ≤ 600000 by omega), (show slots + 0 + 0 ≤ 7302250 by omega)⟩ (fun r2 y1 H locs h hP hD hS => ?_)
  obtain ⟨hp9, hn9⟩ := h
  refine lv_icmp_eq (tgt := 993) hx hb dL_law_864 (by decide) (fun hc => ?_) (fun hc => (hn9 hc).elim)
  have h := hp9 hc
  refine W.widen (k := cells + 1) (n := slots + bud) (by omega) (by omega) ?_
  exact hn x1 y1 _ _ _ h hP hD hS hl
set_option maxHeartbeats 4000000 in
set_option maxRecDepth 100000 in
theorem lawc_26 {p : Program} {l : Launch} {e : Env} {s : State} {m : MethodId} {below : List Frame} {meth : Method} {c : Code} {D : va_G} {cB cI cJ cZ cR : ClassId} {tz b L : Nat} {sc : Nat → Int32} {A : Nat → Prop} (C0 : lw_At p s m meth c b L sc) (hA : ∀ q, s.heap.size ≤ q → A q) (hbA : ¬ A b) (hK : va_K D vwCl (vTy cB cI cJ cZ cR) s) (hT : vST tz A s s.heap) (q hq q2 : Nat → Nat) (x : XS) (y : MS) (i3 : Int32) (hi : ∀ d, d < 7 → vp_in (i3 + nI d) L) (bud cells slots : Nat) (hcs : cells + 1 ≤ 600000 ∧ slots + bud ≤ 7302250) (Z : XS → MS → Prop) (h : wpL_26 x y  bud Z)
    (hn : ∀ (x9 : XS) (y9 : MS) (H : Heap) (locs : List Loc) (ls : Array Slot), Z x9 y9 → va_P D vwCl (WX q hq cB cI cJ cZ cR x9 ++ WM q2 hq cB cI cJ cZ cR y9) H → va_D A (WX q hq cB cI cJ cZ cR x9 ++ WM q2 hq cB cI cJ cZ cR y9) → va_S A s.heap H locs → lv_has ls 4 [(0, .ref b), (1, .ref (q 0)), (2, .ref (q2 0)), (3, .int i3)] → W p l e room_1 s m #[Value.ref b] below meth c H locs (cells + 1) (slots + bud) (lw_Z below #[Value.ref b] s) (F0 m 993 ls []))
    (H : Heap) (locs : List Loc) (ls : Array Slot) (hP : va_P D vwCl (WX q hq cB cI cJ cZ cR x ++ WM q2 hq cB cI cJ cZ cR y) H) (hD : va_D A (WX q hq cB cI cJ cZ cR x ++ WM q2 hq cB cI cJ cZ cR y)) (hS : va_S A s.heap H locs) (hl : lv_has ls 4 [(0, .ref b), (1, .ref (q 0)), (2, .ref (q2 0)), (3, .int i3)]) : W p l e room_1 s m #[Value.ref b] below meth c H locs cells slots (lw_Z below #[Value.ref b] s) (F0 m 869 ls []) := by
  obtain ⟨hx, hb, hr, hml, hown, hts0, hX, hbl, hlocks, hgv⟩ := C0
  have hts : ∀ w ∈ wsL_law, w.before #[Value.ref b] s = true := fun w hw => hts0 w (wsL_law_in w hw)
  have hown : s.vm.findClass RL = some m.cls := hown
  unfold wpL_26 at h
  refine lv_aload_n hx hb dL_law_869 rfl (lv_at hl 1 rfl) ?_
  refine vX_V (As := []) (rest := []) ⟨hx, hb, hml, hown, hts⟩ (fX6_forget l D cB cI cJ cZ cR tz q hq x  (fun x9 => wpM_26 y  (Z x9)) h) (cwV 0 hts gL_law_X6_forget rfl rfl rfl hdX6_forget ⟨Nat.le_of_ble_eq_true rfl, Nat.le_of_ble_eq_true rfl⟩) hK hP hD hS hA hT 6 rfl rfl rfl rfl hl.1 (Nat.le_of_ble_eq_true rfl) dL_law_870 ⟨(show cells + 0 ≤ 600000 by omega), (show slots + 0 ≤ 7302250 by omega)⟩ (fun x1 H locs h hP hD hS => ?_)
  refine lv_aload_n hx hb dL_law_873 rfl (lv_at hl 2 rfl) ?_
  unfold wpM_26 at h
  refine vM_V (As := []) (rest := []) ⟨hx, hb, hml, hown, hts⟩ (fX7_forget l D cB cI cJ cZ cR tz q2 hq y  (fun y9 => Z x1 y9) h) (cwV 0 hts gL_law_X7_forget rfl rfl rfl hdX7_forget ⟨Nat.le_of_ble_eq_true rfl, Nat.le_of_ble_eq_true rfl⟩) hK hP hD hS hA hT 7 rfl rfl rfl rfl hl.1 (Nat.le_of_ble_eq_true rfl) dL_law_874 ⟨(show cells + 0 + 0 ≤ 600000 by omega), (show slots + 0 + 0 ≤ 7302250 by omega)⟩ (fun y1 H locs h hP hD hS => ?_)
  refine lv_goto (tgt := 993) hx hb dL_law_877 (by decide) ?_
  refine W.widen (k := cells + 1) (n := slots + bud) (by omega) (by omega) ?_
  exact hn x1 y1 _ _ _ h hP hD hS hl
set_option maxHeartbeats 4000000 in
set_option maxRecDepth 100000 in
theorem lawc_27 {p : Program} {l : Launch} {e : Env} {s : State} {m : MethodId} {below : List Frame} {meth : Method} {c : Code} {D : va_G} {cB cI cJ cZ cR : ClassId} {tz b L : Nat} {sc : Nat → Int32} {A : Nat → Prop} (C0 : lw_At p s m meth c b L sc) (hA : ∀ q, s.heap.size ≤ q → A q) (hbA : ¬ A b) (hK : va_K D vwCl (vTy cB cI cJ cZ cR) s) (hT : vST tz A s s.heap) (q hq q2 : Nat → Nat) (x : XS) (y : MS) (i3 : Int32) (hi : ∀ d, d < 7 → vp_in (i3 + nI d) L) (bud cells slots : Nat) (hcs : cells + 1 ≤ 600000 ∧ slots + bud ≤ 7302250) (Z : XS → MS → Prop) (h : wpL_27 x y (sc ((i3 + (1 : Int32)).toNatClampNeg)) (sc ((i3 + (2 : Int32)).toNatClampNeg)) (sc ((i3 + (3 : Int32)).toNatClampNeg)) (sc ((i3 + (4 : Int32)).toNatClampNeg)) (sc ((i3 + (5 : Int32)).toNatClampNeg)) (sc ((i3 + (6 : Int32)).toNatClampNeg)) bud Z)
    (hn : ∀ (x9 : XS) (y9 : MS) (H : Heap) (locs : List Loc) (ls : Array Slot), Z x9 y9 → va_P D vwCl (WX q hq cB cI cJ cZ cR x9 ++ WM q2 hq cB cI cJ cZ cR y9) H → va_D A (WX q hq cB cI cJ cZ cR x9 ++ WM q2 hq cB cI cJ cZ cR y9) → va_S A s.heap H locs → lv_has ls 4 [(0, .ref b), (1, .ref (q 0)), (2, .ref (q2 0)), (3, .int i3)] → W p l e room_1 s m #[Value.ref b] below meth c H locs (cells + 1) (slots + bud) (lw_Z below #[Value.ref b] s) (F0 m 993 ls []))
    (H : Heap) (locs : List Loc) (ls : Array Slot) (hP : va_P D vwCl (WX q hq cB cI cJ cZ cR x ++ WM q2 hq cB cI cJ cZ cR y) H) (hD : va_D A (WX q hq cB cI cJ cZ cR x ++ WM q2 hq cB cI cJ cZ cR y)) (hS : va_S A s.heap H locs) (hl : lv_has ls 4 [(0, .ref b), (1, .ref (q 0)), (2, .ref (q2 0)), (3, .int i3)]) : W p l e room_1 s m #[Value.ref b] below meth c H locs cells slots (lw_Z below #[Value.ref b] s) (F0 m 880 ls []) := by
  obtain ⟨hx, hb, hr, hml, hown, hts0, hX, hbl, hlocks, hgv⟩ := C0
  have hts : ∀ w ∈ wsL_law, w.before #[Value.ref b] s = true := fun w hw => hts0 w (wsL_law_in w hw)
  have hown : s.vm.findClass RL = some m.cls := hown
  unfold wpL_27 at h
  refine lv_aload_n hx hb dL_law_880 rfl (lv_at hl 1 rfl) ?_
  refine lv_aload_n hx hb dL_law_881 rfl (lv_at hl 0 rfl) ?_
  refine lv_iload_n hx hb dL_law_882 rfl (lv_at hl 3 rfl) ?_
  refine lv_iconst (v := 1) hx hb dL_law_883 (by decide) ?_
  refine lv_iadd hx hb dL_law_884 ?_
  refine va_sld hx hb hX hbl hbA hS (hi 1 (by decide)) dL_law_885 ?_
  refine lv_aload_n hx hb dL_law_886 rfl (lv_at hl 0 rfl) ?_
  refine lv_iload_n hx hb dL_law_887 rfl (lv_at hl 3 rfl) ?_
  refine lv_iconst (v := 2) hx hb dL_law_888 (by decide) ?_
  refine lv_iadd hx hb dL_law_889 ?_
  refine va_sld hx hb hX hbl hbA hS (hi 2 (by decide)) dL_law_890 ?_
  refine lv_aload_n hx hb dL_law_891 rfl (lv_at hl 0 rfl) ?_
  refine lv_iload_n hx hb dL_law_892 rfl (lv_at hl 3 rfl) ?_
  refine lv_iconst (v := 3) hx hb dL_law_893 (by decide) ?_
  refine lv_iadd hx hb dL_law_894 ?_
  refine va_sld hx hb hX hbl hbA hS (hi 3 (by decide)) dL_law_895 ?_
  refine lv_aload_n hx hb dL_law_896 rfl (lv_at hl 0 rfl) ?_
  refine lv_iload_n hx hb dL_law_897 rfl (lv_at hl 3 rfl) ?_
  refine lv_iconst (v := 4) hx hb dL_law_898 (by decide) ?_
  refine lv_iadd hx hb dL_law_899 ?_
  refine va_sld hx hb hX hbl hbA hS (hi 4 (by decide)) dL_law_900 ?_
  refine lv_aload_n hx hb dL_law_901 rfl (lv_at hl 0 rfl) ?_
  refine lv_iload_n hx hb dL_law_902 rfl (lv_at hl 3 rfl) ?_
  refine lv_iconst (v := 5) hx hb dL_law_903 (by decide) ?_
  refine lv_iadd hx hb dL_law_904 ?_
  refine va_sld hx hb hX hbl hbA hS (hi 5 (by decide)) dL_law_905 ?_
  refine lv_aload_n hx hb dL_law_906 rfl (lv_at hl 0 rfl) ?_
  refine lv_iload_n hx hb dL_law_907 rfl (lv_at hl 3 rfl) ?_
  refine lv_bipush (v := 6) hx hb dL_law_908 (by decide) ?_
  refine lv_iadd hx hb dL_law_910 ?_
  refine va_sld hx hb hX hbl hbA hS (hi 6 (by decide)) dL_law_911 ?_
  refine vX_L (As := [.int (sc ((i3 + (1 : Int32)).toNatClampNeg)), .int (sc ((i3 + (2 : Int32)).toNatClampNeg)), .int (sc ((i3 + (3 : Int32)).toNatClampNeg)), .int (sc ((i3 + (4 : Int32)).toNatClampNeg)), .int (sc ((i3 + (5 : Int32)).toNatClampNeg)), .int (sc ((i3 + (6 : Int32)).toNatClampNeg))]) (rest := []) ⟨hx, hb, hml, hown, hts⟩ (fX6_weight l D cB cI cJ cZ cR tz q hq x (sc ((i3 + (1 : Int32)).toNatClampNeg)) (sc ((i3 + (2 : Int32)).toNatClampNeg)) (sc ((i3 + (3 : Int32)).toNatClampNeg)) (sc ((i3 + (4 : Int32)).toNatClampNeg)) (sc ((i3 + (5 : Int32)).toNatClampNeg)) (sc ((i3 + (6 : Int32)).toNatClampNeg)) (fun r9 x9 => wpM_27 y (sc ((i3 + (1 : Int32)).toNatClampNeg)) (sc ((i3 + (2 : Int32)).toNatClampNeg)) (sc ((i3 + (3 : Int32)).toNatClampNeg)) (sc ((i3 + (4 : Int32)).toNatClampNeg)) (sc ((i3 + (5 : Int32)).toNatClampNeg)) (sc ((i3 + (6 : Int32)).toNatClampNeg)) r9 (Z x9)) h) (cwV 6 hts gL_law_X6_weight rfl rfl rfl hdX6_weight ⟨Nat.le_of_ble_eq_true rfl, Nat.le_of_ble_eq_true rfl⟩) hK hP hD hS hA hT 6 rfl rfl rfl rfl hl.1 (Nat.le_of_ble_eq_true rfl) dL_law_912 ⟨(show cells + 0 ≤ 600000 by omega), (show slots + 0 ≤ 7302250 by omega)⟩ (fun r1 x1 H locs h hP hD hS => ?_)
  refine lv_aload_n hx hb dL_law_915 rfl (lv_at hl 2 rfl) ?_
  refine lv_aload_n hx hb dL_law_916 rfl (lv_at hl 0 rfl) ?_
  refine lv_iload_n hx hb dL_law_917 rfl (lv_at hl 3 rfl) ?_
  refine lv_iconst (v := 1) hx hb dL_law_918 (by decide) ?_
  refine lv_iadd hx hb dL_law_919 ?_
  refine va_sld hx hb hX hbl hbA hS (hi 1 (by decide)) dL_law_920 ?_
  refine lv_aload_n hx hb dL_law_921 rfl (lv_at hl 0 rfl) ?_
  refine lv_iload_n hx hb dL_law_922 rfl (lv_at hl 3 rfl) ?_
  refine lv_iconst (v := 2) hx hb dL_law_923 (by decide) ?_
  refine lv_iadd hx hb dL_law_924 ?_
  refine va_sld hx hb hX hbl hbA hS (hi 2 (by decide)) dL_law_925 ?_
  refine lv_aload_n hx hb dL_law_926 rfl (lv_at hl 0 rfl) ?_
  refine lv_iload_n hx hb dL_law_927 rfl (lv_at hl 3 rfl) ?_
  refine lv_iconst (v := 3) hx hb dL_law_928 (by decide) ?_
  refine lv_iadd hx hb dL_law_929 ?_
  refine va_sld hx hb hX hbl hbA hS (hi 3 (by decide)) dL_law_930 ?_
  refine lv_aload_n hx hb dL_law_931 rfl (lv_at hl 0 rfl) ?_
  refine lv_iload_n hx hb dL_law_932 rfl (lv_at hl 3 rfl) ?_
  refine lv_iconst (v := 4) hx hb dL_law_933 (by decide) ?_
  refine lv_iadd hx hb dL_law_934 ?_
  refine va_sld hx hb hX hbl hbA hS (hi 4 (by decide)) dL_law_935 ?_
  refine lv_aload_n hx hb dL_law_936 rfl (lv_at hl 0 rfl) ?_
  refine lv_iload_n hx hb dL_law_937 rfl (lv_at hl 3 rfl) ?_
  refine lv_iconst (v := 5) hx hb dL_law_938 (by decide) ?_
  refine lv_iadd hx hb dL_law_939 ?_
  refine va_sld hx hb hX hbl hbA hS (hi 5 (by decide)) dL_law_940 ?_
  refine lv_aload_n hx hb dL_law_941 rfl (lv_at hl 0 rfl) ?_
  refine lv_iload_n hx hb dL_law_942 rfl (lv_at hl 3 rfl) ?_
  refine lv_bipush (v := 6) hx hb dL_law_943 (by decide) ?_
  refine lv_iadd hx hb dL_law_945 ?_
  refine va_sld hx hb hX hbl hbA hS (hi 6 (by decide)) dL_law_946 ?_
  unfold wpM_27 at h
  refine vM_L (As := [.int (sc ((i3 + (1 : Int32)).toNatClampNeg)), .int (sc ((i3 + (2 : Int32)).toNatClampNeg)), .int (sc ((i3 + (3 : Int32)).toNatClampNeg)), .int (sc ((i3 + (4 : Int32)).toNatClampNeg)), .int (sc ((i3 + (5 : Int32)).toNatClampNeg)), .int (sc ((i3 + (6 : Int32)).toNatClampNeg))]) (rest := [.long r1]) ⟨hx, hb, hml, hown, hts⟩ (fX7_weight l D cB cI cJ cZ cR tz q2 hq y (sc ((i3 + (1 : Int32)).toNatClampNeg)) (sc ((i3 + (2 : Int32)).toNatClampNeg)) (sc ((i3 + (3 : Int32)).toNatClampNeg)) (sc ((i3 + (4 : Int32)).toNatClampNeg)) (sc ((i3 + (5 : Int32)).toNatClampNeg)) (sc ((i3 + (6 : Int32)).toNatClampNeg)) (fun r9 y9 => ((r1 = r9) → (Z x1 y9)) ∧ (¬ (r1 = r9) → False)) h) (cwV 6 hts gL_law_X7_weight rfl rfl rfl hdX7_weight ⟨Nat.le_of_ble_eq_true rfl, Nat.le_of_ble_eq_true rfl⟩) hK hP hD hS hA hT 7 rfl rfl rfl rfl hl.1 (Nat.le_of_ble_eq_true rfl) dL_law_947 ⟨(show cells + 0 + 0 ≤ 600000 by omega), (show slots + 0 + 0 ≤ 7302250 by omega)⟩ (fun r2 y1 H locs h hP hD hS => ?_)
  refine W.lcmp hx hb dL_law_950 ?_
  obtain ⟨hp9, hn9⟩ := h
  refine lv_if_eq (tgt := 993) hx hb dL_law_951 (by decide) (fun hc => ?_) (fun hc => (hn9 (fun z => hc ((lg_cmp_eq r1 r2).mpr z))).elim)
  have h := hp9 ((lg_cmp_eq r1 r2).mp hc)
  refine W.widen (k := cells + 1) (n := slots + bud) (by omega) (by omega) ?_
  exact hn x1 y1 _ _ _ h hP hD hS hl
set_option maxHeartbeats 4000000 in
set_option maxRecDepth 100000 in
theorem lawc_28 {p : Program} {l : Launch} {e : Env} {s : State} {m : MethodId} {below : List Frame} {meth : Method} {c : Code} {D : va_G} {cB cI cJ cZ cR : ClassId} {tz b L : Nat} {sc : Nat → Int32} {A : Nat → Prop} (C0 : lw_At p s m meth c b L sc) (hA : ∀ q, s.heap.size ≤ q → A q) (hbA : ¬ A b) (hK : va_K D vwCl (vTy cB cI cJ cZ cR) s) (hT : vST tz A s s.heap) (q hq q2 : Nat → Nat) (x : XS) (y : MS) (i3 : Int32) (hi : ∀ d, d < 7 → vp_in (i3 + nI d) L) (bud cells slots : Nat) (hcs : cells + 1 ≤ 600000 ∧ slots + bud ≤ 7302250) (Z : XS → MS → Prop) (h : wpL_28 x y (sc ((i3 + (1 : Int32)).toNatClampNeg)) bud Z)
    (hn : ∀ (x9 : XS) (y9 : MS) (H : Heap) (locs : List Loc) (ls : Array Slot), Z x9 y9 → va_P D vwCl (WX q hq cB cI cJ cZ cR x9 ++ WM q2 hq cB cI cJ cZ cR y9) H → va_D A (WX q hq cB cI cJ cZ cR x9 ++ WM q2 hq cB cI cJ cZ cR y9) → va_S A s.heap H locs → lv_has ls 4 [(0, .ref b), (1, .ref (q 0)), (2, .ref (q2 0)), (3, .int i3)] → W p l e room_1 s m #[Value.ref b] below meth c H locs (cells + 1) (slots + bud) (lw_Z below #[Value.ref b] s) (F0 m 993 ls []))
    (H : Heap) (locs : List Loc) (ls : Array Slot) (hP : va_P D vwCl (WX q hq cB cI cJ cZ cR x ++ WM q2 hq cB cI cJ cZ cR y) H) (hD : va_D A (WX q hq cB cI cJ cZ cR x ++ WM q2 hq cB cI cJ cZ cR y)) (hS : va_S A s.heap H locs) (hl : lv_has ls 4 [(0, .ref b), (1, .ref (q 0)), (2, .ref (q2 0)), (3, .int i3)]) : W p l e room_1 s m #[Value.ref b] below meth c H locs cells slots (lw_Z below #[Value.ref b] s) (F0 m 956 ls []) := by
  obtain ⟨hx, hb, hr, hml, hown, hts0, hX, hbl, hlocks, hgv⟩ := C0
  have hts : ∀ w ∈ wsL_law, w.before #[Value.ref b] s = true := fun w hw => hts0 w (wsL_law_in w hw)
  have hown : s.vm.findClass RL = some m.cls := hown
  unfold wpL_28 at h
  refine lv_aload_n hx hb dL_law_956 rfl (lv_at hl 1 rfl) ?_
  refine lv_aload_n hx hb dL_law_957 rfl (lv_at hl 0 rfl) ?_
  refine lv_iload_n hx hb dL_law_958 rfl (lv_at hl 3 rfl) ?_
  refine lv_iconst (v := 1) hx hb dL_law_959 (by decide) ?_
  refine lv_iadd hx hb dL_law_960 ?_
  refine va_sld hx hb hX hbl hbA hS (hi 1 (by decide)) dL_law_961 ?_
  refine vX_L (As := [.int (sc ((i3 + (1 : Int32)).toNatClampNeg))]) (rest := []) ⟨hx, hb, hml, hown, hts⟩ (fX6_miss l D cB cI cJ cZ cR tz q hq x (sc ((i3 + (1 : Int32)).toNatClampNeg)) (fun r9 x9 => wpM_28 y (sc ((i3 + (1 : Int32)).toNatClampNeg)) r9 (Z x9)) h) (cwV 1 hts gL_law_X6_miss rfl rfl rfl hdX6_miss ⟨Nat.le_of_ble_eq_true rfl, Nat.le_of_ble_eq_true rfl⟩) hK hP hD hS hA hT 6 rfl rfl rfl rfl hl.1 (Nat.le_of_ble_eq_true rfl) dL_law_962 ⟨(show cells + 0 ≤ 600000 by omega), (show slots + 0 ≤ 7302250 by omega)⟩ (fun r1 x1 H locs h hP hD hS => ?_)
  refine lv_aload_n hx hb dL_law_965 rfl (lv_at hl 2 rfl) ?_
  refine lv_aload_n hx hb dL_law_966 rfl (lv_at hl 0 rfl) ?_
  refine lv_iload_n hx hb dL_law_967 rfl (lv_at hl 3 rfl) ?_
  refine lv_iconst (v := 1) hx hb dL_law_968 (by decide) ?_
  refine lv_iadd hx hb dL_law_969 ?_
  refine va_sld hx hb hX hbl hbA hS (hi 1 (by decide)) dL_law_970 ?_
  unfold wpM_28 at h
  refine vM_L (As := [.int (sc ((i3 + (1 : Int32)).toNatClampNeg))]) (rest := [.long r1]) ⟨hx, hb, hml, hown, hts⟩ (fX7_miss l D cB cI cJ cZ cR tz q2 hq y (sc ((i3 + (1 : Int32)).toNatClampNeg)) (fun r9 y9 => ((r1 = r9) → (Z x1 y9)) ∧ (¬ (r1 = r9) → False)) h) (cwV 1 hts gL_law_X7_miss rfl rfl rfl hdX7_miss ⟨Nat.le_of_ble_eq_true rfl, Nat.le_of_ble_eq_true rfl⟩) hK hP hD hS hA hT 7 rfl rfl rfl rfl hl.1 (Nat.le_of_ble_eq_true rfl) dL_law_971 ⟨(show cells + 0 + 0 ≤ 600000 by omega), (show slots + 0 + 0 ≤ 7302250 by omega)⟩ (fun r2 y1 H locs h hP hD hS => ?_)
  refine W.lcmp hx hb dL_law_974 ?_
  obtain ⟨hp9, hn9⟩ := h
  refine lv_if_eq (tgt := 993) hx hb dL_law_975 (by decide) (fun hc => ?_) (fun hc => (hn9 (fun z => hc ((lg_cmp_eq r1 r2).mpr z))).elim)
  have h := hp9 ((lg_cmp_eq r1 r2).mp hc)
  refine W.widen (k := cells + 1) (n := slots + bud) (by omega) (by omega) ?_
  exact hn x1 y1 _ _ _ h hP hD hS hl
set_option maxHeartbeats 4000000 in
set_option maxRecDepth 100000 in
theorem lawc_29 {p : Program} {l : Launch} {e : Env} {s : State} {m : MethodId} {below : List Frame} {meth : Method} {c : Code} {D : va_G} {cB cI cJ cZ cR : ClassId} {tz b L : Nat} {sc : Nat → Int32} {A : Nat → Prop} (C0 : lw_At p s m meth c b L sc) (hA : ∀ q, s.heap.size ≤ q → A q) (hbA : ¬ A b) (hK : va_K D vwCl (vTy cB cI cJ cZ cR) s) (hT : vST tz A s s.heap) (q hq q2 : Nat → Nat) (x : XS) (y : MS) (i3 : Int32) (hi : ∀ d, d < 7 → vp_in (i3 + nI d) L) (bud cells slots : Nat) (hcs : cells + 1 ≤ 600000 ∧ slots + bud ≤ 7302250) (Z : XS → MS → Prop) (h : wpL_29 x y  bud Z)
    (hn : ∀ (x9 : XS) (y9 : MS) (H : Heap) (locs : List Loc) (ls : Array Slot), Z x9 y9 → va_P D vwCl (WX q hq cB cI cJ cZ cR x9 ++ WM q2 hq cB cI cJ cZ cR y9) H → va_D A (WX q hq cB cI cJ cZ cR x9 ++ WM q2 hq cB cI cJ cZ cR y9) → va_S A s.heap H locs → lv_has ls 4 [(0, .ref b), (1, .ref (q 0)), (2, .ref (q2 0)), (3, .int i3)] → W p l e room_1 s m #[Value.ref b] below meth c H locs (cells + 1) (slots + bud) (lw_Z below #[Value.ref b] s) (F0 m 993 ls []))
    (H : Heap) (locs : List Loc) (ls : Array Slot) (hP : va_P D vwCl (WX q hq cB cI cJ cZ cR x ++ WM q2 hq cB cI cJ cZ cR y) H) (hD : va_D A (WX q hq cB cI cJ cZ cR x ++ WM q2 hq cB cI cJ cZ cR y)) (hS : va_S A s.heap H locs) (hl : lv_has ls 4 [(0, .ref b), (1, .ref (q 0)), (2, .ref (q2 0)), (3, .int i3)]) : W p l e room_1 s m #[Value.ref b] below meth c H locs cells slots (lw_Z below #[Value.ref b] s) (F0 m 980 ls []) := by
  obtain ⟨hx, hb, hr, hml, hown, hts0, hX, hbl, hlocks, hgv⟩ := C0
  have hts : ∀ w ∈ wsL_law, w.before #[Value.ref b] s = true := fun w hw => hts0 w (wsL_law_in w hw)
  have hown : s.vm.findClass RL = some m.cls := hown
  unfold wpL_29 at h
  refine lv_aload_n hx hb dL_law_980 rfl (lv_at hl 1 rfl) ?_
  refine vX_I (As := []) (rest := []) ⟨hx, hb, hml, hown, hts⟩ (fX6_undo l D cB cI cJ cZ cR tz q hq x  (fun r9 x9 => wpM_29 y  r9 (Z x9)) h) (cwV 0 hts gL_law_X6_undo rfl rfl rfl hdX6_undo ⟨Nat.le_of_ble_eq_true rfl, Nat.le_of_ble_eq_true rfl⟩) hK hP hD hS hA hT 6 rfl rfl rfl rfl hl.1 (Nat.le_of_ble_eq_true rfl) dL_law_981 ⟨(show cells + 0 ≤ 600000 by omega), (show slots + 0 ≤ 7302250 by omega)⟩ (fun r1 x1 H locs h hP hD hS => ?_)
  refine lv_aload_n hx hb dL_law_984 rfl (lv_at hl 2 rfl) ?_
  unfold wpM_29 at h
  refine vM_I (As := []) (rest := [.int r1]) ⟨hx, hb, hml, hown, hts⟩ (fX7_undo l D cB cI cJ cZ cR tz q2 hq y  (fun r9 y9 => ((r1 = r9) → (Z x1 y9)) ∧ (¬ (r1 = r9) → False)) h) (cwV 0 hts gL_law_X7_undo rfl rfl rfl hdX7_undo ⟨Nat.le_of_ble_eq_true rfl, Nat.le_of_ble_eq_true rfl⟩) hK hP hD hS hA hT 7 rfl rfl rfl rfl hl.1 (Nat.le_of_ble_eq_true rfl) dL_law_985 ⟨(show cells + 0 + 0 ≤ 600000 by omega), (show slots + 0 + 0 ≤ 7302250 by omega)⟩ (fun r2 y1 H locs h hP hD hS => ?_)
  obtain ⟨hp9, hn9⟩ := h
  refine lv_icmp_eq (tgt := 993) hx hb dL_law_988 (by decide) (fun hc => ?_) (fun hc => (hn9 hc).elim)
  have h := hp9 hc
  refine W.widen (k := cells + 1) (n := slots + bud) (by omega) (by omega) ?_
  exact hn x1 y1 _ _ _ h hP hD hS hl
