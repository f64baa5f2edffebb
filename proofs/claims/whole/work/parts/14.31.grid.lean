theorem mX2_cellAt_1 : Cond.fieldLink RX2 27 "TrialDesk$Grid" "START" "[I" ∈ wsX2_cellAt := List.mem_of_getElem? (i := 1) (by decide +kernel)
abbrev rmX2_cellAt : Room := { frames := 0, cells := 0, slots := 0, locals := 0 }
set_option maxHeartbeats 4000000 in
set_option maxRecDepth 100000 in
theorem ctX2_cellAt (l : Launch) (D : va_G) (cB cI cJ cZ cR : ClassId) (tz : Nat) (a1 : Int32) (a2 : Int32) (k : Int32 → Prop) (h : wpX2_cellAt a1 a2 k) : MI l yX2_cellAt wsX2_cellAt rmX2_cellAt D (vTy cB cI cJ cZ cR) tz [.int a1, .int a2] ([]) (fun (r : Int32) (u : Unit) => k r) (fun (u : Unit) => []) 0 0 := by
  refine MI.of (cc := cX2_cellAt) (maxL := 2) (ret := (some .int)) (by decide) rfl (Nat.le_of_ble_eq_true rfl) ?_
  intro p e s m args below meth c A ls Q hQ E
  obtain ⟨hx, hb, hml, hr, hts, hown, hlk, hin, hP, hK, hD, hS, hA, hT, hl⟩ := E
  have hown : s.vm.findClass RX2 = some m.cls := hown
  have hl : lv_has ls 2 [(0, .int a1), (1, .int a2)] := hl
  unfold wpX2_cellAt at h
  refine lv_iload_n hx hb dX2_cellAt_0 rfl (lv_at hl 0 rfl) ?_
  refine lv_iload_n hx hb dX2_cellAt_1 rfl (lv_at hl 1 rfl) ?_
  obtain ⟨hp_1, hn_1⟩ := h
  refine lv_icmp_lt (tgt := 15) hx hb dX2_cellAt_2 (by decide) (fun hc => ?_) (fun hc => ?_)
  · have h := hp_1 hc
    refine va_gets hx hb hT.1 hS hown (hts _ mX2_cellAt_1) (fun _ h9 => h9) dX2_cellAt_15 ?_
    refine lv_iload_n hx hb dX2_cellAt_18 rfl (lv_at hl 1 rfl) ?_
    obtain ⟨hi_2, h⟩ := h
    refine vs_ald hx hb hT hS hi_2 rfl dX2_cellAt_19 ?_
    refine lv_iload_n hx hb dX2_cellAt_20 rfl (lv_at hl 0 rfl) ?_
    refine lv_iadd hx hb dX2_cellAt_21 ?_
    subst hQ
    exact vr_I (v := (stI (a2.toNatClampNeg)) + a1) () hx hb hr hlk hP hD hS [] rfl rfl h dX2_cellAt_22
  · have h := hn_1 hc
    refine va_gets hx hb hT.1 hS hown (hts _ mX2_cellAt_1) (fun _ h9 => h9) dX2_cellAt_5 ?_
    refine lv_iload_n hx hb dX2_cellAt_8 rfl (lv_at hl 0 rfl) ?_
    obtain ⟨hi_3, h⟩ := h
    refine vs_ald hx hb hT hS hi_3 rfl dX2_cellAt_9 ?_
    refine lv_iload_n hx hb dX2_cellAt_10 rfl (lv_at hl 1 rfl) ?_
    refine lv_iadd hx hb dX2_cellAt_11 ?_
    refine lv_goto (tgt := 22) hx hb dX2_cellAt_12 (by decide) ?_
    subst hQ
    exact vr_I (v := (stI (a1.toNatClampNeg)) + a2) () hx hb hr hlk hP hD hS [] rfl rfl h dX2_cellAt_22
theorem mX2_copyFrom_1 : Cond.fieldLink RX2 19 "TrialDesk$Grid" "size" "I" ∈ wsX2_copyFrom := List.mem_of_getElem? (i := 1) (by decide +kernel)
theorem mX2_copyFrom_2 : Cond.fieldLink RX2 9 "TrialDesk$Grid" "cells" "[J" ∈ wsX2_copyFrom := List.mem_of_getElem? (i := 2) (by decide +kernel)
theorem mX2_copyFrom_3 : Cond.methodLink RX2 31 arraycopyName ∈ wsX2_copyFrom := List.mem_of_getElem? (i := 3) (by decide +kernel)
theorem mX2_copyFrom_4 : Cond.native arraycopyName ∈ wsX2_copyFrom := List.mem_of_getElem? (i := 4) (by decide +kernel)
theorem mX2_copyFrom_5 : Cond.static arraycopyName ∈ wsX2_copyFrom := List.mem_of_getElem? (i := 5) (by decide +kernel)
theorem mX2_copyFrom_6 : Cond.initialized "java/lang/System" ∈ wsX2_copyFrom := List.mem_of_getElem? (i := 6) (by decide +kernel)
abbrev rmX2_copyFrom : Room := { frames := 1, cells := 0, slots := 0, locals := 70 }
set_option maxHeartbeats 4000000 in
set_option maxRecDepth 100000 in
theorem ctX2_copyFrom (l : Launch) (D : va_G) (cB cI cJ cZ cR : ClassId) (tz : Nat) (q_t : Nat) (q_t_cells : Nat) (q_t_swept : Nat) (q_p1 : Nat) (q_p1_cells : Nat) (q_p1_swept : Nat) (t_size : Int32) (t_rank : Int32) (t_lower : Int64) (t_cells : (Nat → Int64)) (p1_size : Int32) (p1_rank : Int32) (p1_lower : Int64) (p1_cells : (Nat → Int64)) (k : (Nat → Int64) → Int32 → Prop) (h : wpX2_copyFrom t_cells t_size p1_cells p1_size k) : MV l yX2_copyFrom wsX2_copyFrom rmX2_copyFrom D (vTy cB cI cJ cZ cR) tz [.ref q_t, .ref q_p1] ([(q_t, .inr (2, [.ref q_t_cells, .ref q_t_swept, .int t_size, .int t_rank, .long t_lower])), (q_t_cells, .inl (cJ, 15, .inr (.inl t_cells))), (q_p1, .inr (2, [.ref q_p1_cells, .ref q_p1_swept, .int p1_size, .int p1_rank, .long p1_lower])), (q_p1_cells, .inl (cJ, 15, .inr (.inl p1_cells)))]) (fun (u : (Nat → Int64) × Int32) => k u.1 u.2) (fun (u : (Nat → Int64) × Int32) => [(q_t, .inr (2, [.ref q_t_cells, .ref q_t_swept, .int (u.2), .int t_rank, .long t_lower])), (q_t_cells, .inl (cJ, 15, .inr (.inl (u.1)))), (q_p1, .inr (2, [.ref q_p1_cells, .ref q_p1_swept, .int p1_size, .int p1_rank, .long p1_lower])), (q_p1_cells, .inl (cJ, 15, .inr (.inl p1_cells)))]) 0 0 := by
  refine MV.of (cc := cX2_copyFrom) (maxL := 2) (ret := none) (by decide) rfl (Nat.le_of_ble_eq_true rfl) ?_
  intro p e s m args below meth c A ls Q hQ E
  obtain ⟨hx, hb, hml, hr, hts, hown, hlk, hin, hP, hK, hD, hS, hA, hT, hl⟩ := E
  have hown : s.vm.findClass RX2 = some m.cls := hown
  have hl : lv_has ls 2 [(0, .ref q_t), (1, .ref q_p1)] := hl
  have iX2 : ∀ w ∈ wsX20, w ∈ wsX2_copyFrom := fun _ h => List.mem_cons_of_mem _ (List.mem_append_right _ h)
  unfold wpX2_copyFrom at h
  refine lv_aload_n hx hb dX2_copyFrom_0 rfl (lv_at hl 0 rfl) ?_
  refine lv_aload_n hx hb dX2_copyFrom_1 rfl (lv_at hl 1 rfl) ?_
  refine va_get (v := .int p1_size) hx hb hts iX2 hown hK hP 2 rfl rfl 2 (by decide) (hts _ mX2_copyFrom_1) (fun _ h9 => h9) rfl dX2_copyFrom_2 ?_
  refine va_put (v := .int p1_size) (ty := .int) hx hb hts iX2 tyX2 tyX2_ok nmX2 hown hK hP hD hS 0 rfl rfl 2 (by decide) (hts _ mX2_copyFrom_1) (fun _ h9 => h9) rfl (tyX2_ok 2 (by decide)) rfl rfl (Nat.le_of_ble_eq_true rfl) dX2_copyFrom_5 (fun H locs hP hD hS => ?_)
  have hP : va_P D vwCl ([(q_t, .inr (2, [.ref q_t_cells, .ref q_t_swept, .int p1_size, .int t_rank, .long t_lower])), (q_t_cells, .inl (cJ, 15, .inr (.inl t_cells))), (q_p1, .inr (2, [.ref q_p1_cells, .ref q_p1_swept, .int p1_size, .int p1_rank, .long p1_lower])), (q_p1_cells, .inl (cJ, 15, .inr (.inl p1_cells)))]) H := hP
  have hD : va_D A ([(q_t, .inr (2, [.ref q_t_cells, .ref q_t_swept, .int p1_size, .int t_rank, .long t_lower])), (q_t_cells, .inl (cJ, 15, .inr (.inl t_cells))), (q_p1, .inr (2, [.ref q_p1_cells, .ref q_p1_swept, .int p1_size, .int p1_rank, .long p1_lower])), (q_p1_cells, .inl (cJ, 15, .inr (.inl p1_cells)))]) := hD
  refine lv_aload_n hx hb dX2_copyFrom_8 rfl (lv_at hl 1 rfl) ?_
  refine va_get (v := .ref q_p1_cells) hx hb hts iX2 hown hK hP 2 rfl rfl 0 (by decide) (hts _ mX2_copyFrom_2) (fun _ h9 => h9) rfl dX2_copyFrom_9 ?_
  refine lv_iconst (v := 0) hx hb dX2_copyFrom_12 (by decide) ?_
  refine lv_aload_n hx hb dX2_copyFrom_13 rfl (lv_at hl 0 rfl) ?_
  refine va_get (v := .ref q_t_cells) hx hb hts iX2 hown hK hP 0 rfl rfl 0 (by decide) (hts _ mX2_copyFrom_2) (fun _ h9 => h9) rfl dX2_copyFrom_14 ?_
  refine lv_iconst (v := 0) hx hb dX2_copyFrom_17 (by decide) ?_
  refine lv_bipush (v := 15) hx hb dX2_copyFrom_18 (by decide) ?_
  refine vcp_l (k := 15) hx hb (hml.trans hl.1.symm) hown (hts _ mX2_copyFrom_3) (hts _ mX2_copyFrom_4) (hts _ mX2_copyFrom_5) (hts _ mX2_copyFrom_6) hK hP hD hS 3 1 rfl rfl rfl rfl (by decide) (by decide) (by decide) (by decide) rfl (Nat.le_of_ble_eq_true rfl) (Nat.le_of_ble_eq_true rfl) dX2_copyFrom_20 (fun H locs hP hD hS => ?_)
  have hP : va_P D vwCl ([(q_t, .inr (2, [.ref q_t_cells, .ref q_t_swept, .int p1_size, .int t_rank, .long t_lower])), (q_t_cells, .inl (cJ, 15, .inr (.inl p1_cells))), (q_p1, .inr (2, [.ref q_p1_cells, .ref q_p1_swept, .int p1_size, .int p1_rank, .long p1_lower])), (q_p1_cells, .inl (cJ, 15, .inr (.inl p1_cells)))]) H := hP
  have hD : va_D A ([(q_t, .inr (2, [.ref q_t_cells, .ref q_t_swept, .int p1_size, .int t_rank, .long t_lower])), (q_t_cells, .inl (cJ, 15, .inr (.inl p1_cells))), (q_p1, .inr (2, [.ref q_p1_cells, .ref q_p1_swept, .int p1_size, .int p1_rank, .long p1_lower])), (q_p1_cells, .inl (cJ, 15, .inr (.inl p1_cells)))]) := hD
  subst hQ
  exact vr_V (p1_cells, p1_size) hx hb hr hlk hP hD hS [0, 1, 2, 3] rfl rfl h dX2_copyFrom_23
theorem mX2_empty_1 : Cond.fieldLink RX2 19 "TrialDesk$Grid" "size" "I" ∈ wsX2_empty := List.mem_of_getElem? (i := 1) (by decide +kernel)
theorem mX2_empty_2 : Cond.fieldLink RX2 9 "TrialDesk$Grid" "cells" "[J" ∈ wsX2_empty := List.mem_of_getElem? (i := 2) (by decide +kernel)
abbrev rmX2_empty : Room := { frames := 1, cells := 0, slots := 0, locals := 24 }
set_option maxHeartbeats 4000000 in
set_option maxRecDepth 100000 in
theorem ctX2_empty (l : Launch) (D : va_G) (cB cI cJ cZ cR : ClassId) (tz : Nat) (q_t : Nat) (q_t_cells : Nat) (q_t_swept : Nat) (t_size : Int32) (t_rank : Int32) (t_lower : Int64) (t_cells : (Nat → Int64)) (a1 : Int32) (k : (Nat → Int64) → Int32 → Prop) (h : wpX2_empty t_cells t_size a1 k) : MV l yX2_empty wsX2_empty rmX2_empty D (vTy cB cI cJ cZ cR) tz [.ref q_t, .int a1] ([(q_t, .inr (2, [.ref q_t_cells, .ref q_t_swept, .int t_size, .int t_rank, .long t_lower])), (q_t_cells, .inl (cJ, 15, .inr (.inl t_cells)))]) (fun (u : (Nat → Int64) × Int32) => k u.1 u.2) (fun (u : (Nat → Int64) × Int32) => [(q_t, .inr (2, [.ref q_t_cells, .ref q_t_swept, .int (u.2), .int t_rank, .long t_lower])), (q_t_cells, .inl (cJ, 15, .inr (.inl (u.1))))]) 0 0 := by
  refine MV.of (cc := cX2_empty) (maxL := 2) (ret := none) (by decide) rfl (Nat.le_of_ble_eq_true rfl) ?_
  intro p e s m args below meth c A ls Q hQ E
  obtain ⟨hx, hb, hml, hr, hts, hown, hlk, hin, hP, hK, hD, hS, hA, hT, hl⟩ := E
  have hown : s.vm.findClass RX2 = some m.cls := hown
  have hl : lv_has ls 2 [(0, .ref q_t), (1, .int a1)] := hl
  have iX2 : ∀ w ∈ wsX20, w ∈ wsX2_empty := fun _ h => List.mem_cons_of_mem _ (List.mem_append_right _ h)
  unfold wpX2_empty at h
  refine lv_aload_n hx hb dX2_empty_0 rfl (lv_at hl 0 rfl) ?_
  refine lv_iload_n hx hb dX2_empty_1 rfl (lv_at hl 1 rfl) ?_
  refine va_put (v := .int a1) (ty := .int) hx hb hts iX2 tyX2 tyX2_ok nmX2 hown hK hP hD hS 0 rfl rfl 2 (by decide) (hts _ mX2_empty_1) (fun _ h9 => h9) rfl (tyX2_ok 2 (by decide)) rfl rfl (Nat.le_of_ble_eq_true rfl) dX2_empty_2 (fun H locs hP hD hS => ?_)
  have hP : va_P D vwCl ([(q_t, .inr (2, [.ref q_t_cells, .ref q_t_swept, .int a1, .int t_rank, .long t_lower])), (q_t_cells, .inl (cJ, 15, .inr (.inl t_cells)))]) H := hP
  have hD : va_D A ([(q_t, .inr (2, [.ref q_t_cells, .ref q_t_swept, .int a1, .int t_rank, .long t_lower])), (q_t_cells, .inl (cJ, 15, .inr (.inl t_cells)))]) := hD
  refine lv_aload_n hx hb dX2_empty_5 rfl (lv_at hl 0 rfl) ?_
  refine va_get (v := .ref q_t_cells) hx hb hts iX2 hown hK hP 0 rfl rfl 0 (by decide) (hts _ mX2_empty_2) (fun _ h9 => h9) rfl dX2_empty_6 ?_
  refine lv_lconst (v := 0) hx hb dX2_empty_9 (by decide) ?_
  refine vc_SV (As := [.ref q_t_cells, .long (0 : Int64)]) (rest := []) (wr := [(q_t, .inr (2, [.ref q_t_cells, .ref q_t_swept, .int a1, .int t_rank, .long t_lower]))]) ⟨hx, hb, hml, hown, hts⟩ (cfillL l D cB cI cJ cZ cR tz q_t_cells 15 t_cells (0 : Int64) (by decide)) (va_cwS 2 hts gX2_empty_J7_fill_d0a16 rfl rfl rfl hdJ7_fill_d0a16.2 ⟨Nat.le_of_ble_eq_true rfl, Nat.le_of_ble_eq_true rfl⟩) hK hP hD hS hA hT [1] [0] rfl rfl rfl rfl (by decide) rfl rfl hl.1 (Nat.le_of_ble_eq_true rfl) dX2_empty_10 ⟨Nat.le_of_ble_eq_true rfl, Nat.le_of_ble_eq_true rfl⟩ (fun u9 H locs h9 hP hD hS => ?_)
  have hP : va_P D vwCl ([(q_t, .inr (2, [.ref q_t_cells, .ref q_t_swept, .int a1, .int t_rank, .long t_lower])), (q_t_cells, .inl (cJ, 15, .inr (.inl (fun _ => (0 : Int64)))))]) H := hP.sub [0, 1] rfl
  have hD : va_D A ([(q_t, .inr (2, [.ref q_t_cells, .ref q_t_swept, .int a1, .int t_rank, .long t_lower])), (q_t_cells, .inl (cJ, 15, .inr (.inl (fun _ => (0 : Int64)))))]) := hD.sub [0, 1] rfl rfl
  subst hQ
  exact vr_V (fun _ => (0 : Int64), a1) hx hb hr hlk hP hD hS [0, 1] rfl rfl h dX2_empty_13
theorem mX2_shift_1 : Cond.fieldLink RX2 19 "TrialDesk$Grid" "size" "I" ∈ wsX2_shift := List.mem_of_getElem? (i := 1) (by decide +kernel)
theorem mX2_shift_2 : Cond.fieldLink RX2 27 "TrialDesk$Grid" "START" "[I" ∈ wsX2_shift := List.mem_of_getElem? (i := 2) (by decide +kernel)
theorem mX2_shift_3 : Cond.fieldLink RX2 9 "TrialDesk$Grid" "cells" "[J" ∈ wsX2_shift := List.mem_of_getElem? (i := 3) (by decide +kernel)
abbrev rmX2_shift : Room := { frames := 0, cells := 0, slots := 0, locals := 0 }
set_option maxHeartbeats 4000000 in
set_option maxRecDepth 100000 in
theorem ctX2_shift (l : Launch) (D : va_G) (cB cI cJ cZ cR : ClassId) (tz : Nat) (q_t : Nat) (q_t_cells : Nat) (q_t_swept : Nat) (t_size : Int32) (t_rank : Int32) (t_lower : Int64) (t_cells : (Nat → Int64)) (a1 : Int32) (a2 : Int32) (k : (Nat → Int64) → Prop) (h : wpX2_shift t_cells t_size a1 a2 k) : MV l yX2_shift wsX2_shift rmX2_shift D (vTy cB cI cJ cZ cR) tz [.ref q_t, .int a1, .int a2] ([(q_t, .inr (2, [.ref q_t_cells, .ref q_t_swept, .int t_size, .int t_rank, .long t_lower])), (q_t_cells, .inl (cJ, 15, .inr (.inl t_cells)))]) (fun (u : (Nat → Int64)) => k u) (fun (u : (Nat → Int64)) => [(q_t, .inr (2, [.ref q_t_cells, .ref q_t_swept, .int t_size, .int t_rank, .long t_lower])), (q_t_cells, .inl (cJ, 15, .inr (.inl u)))]) 0 0 := by
  refine MV.of (cc := cX2_shift) (maxL := 7) (ret := none) (by decide) rfl (Nat.le_of_ble_eq_true rfl) ?_
  intro p e s m args below meth c A ls Q hQ E
  obtain ⟨hx, hb, hml, hr, hts, hown, hlk, hin, hP, hK, hD, hS, hA, hT, hl⟩ := E
  have hown : s.vm.findClass RX2 = some m.cls := hown
  have hl : lv_has ls 7 [(0, .ref q_t), (1, .int a1), (2, .int a2)] := hl
  have iX2 : ∀ w ∈ wsX20, w ∈ wsX2_shift := fun _ h => List.mem_cons_of_mem _ (List.mem_append_right _ h)
  unfold wpX2_shift at h
  refine lv_iconst (v := 0) hx hb dX2_shift_0 (by decide) ?_
  refine lv_istore_n (lv' := [(3, .int (0 : Int32)), (0, .ref q_t), (1, .int a1), (2, .int a2)]) hx hb dX2_shift_1 rfl hl (by decide) rfl (fun ls hl => ?_)
  have hL_2 : ∀ (n_2 : Nat) (x3_1 : Int32) (t_cells_2 : (Nat → Int64)) (H : Heap) (locs : List Loc) (ls : Array Slot), wl (wbX2_shift_2 t_size a1 a2 k) n_2 (x3_1, t_cells_2) → va_P D vwCl ([(q_t, .inr (2, [.ref q_t_cells, .ref q_t_swept, .int t_size, .int t_rank, .long t_lower])), (q_t_cells, .inl (cJ, 15, .inr (.inl t_cells_2)))]) H → va_D A ([(q_t, .inr (2, [.ref q_t_cells, .ref q_t_swept, .int t_size, .int t_rank, .long t_lower])), (q_t_cells, .inl (cJ, 15, .inr (.inl t_cells_2)))]) → va_S A s.heap H locs → lv_has ls 7 [(0, .ref q_t), (1, .int a1), (2, .int a2), (3, .int x3_1)] → W p l e rmX2_shift s m args below meth c H locs 0 0 Q (F0 m 2 ls []) := by
    intro n_2
    induction n_2 with
    | zero => intro x3_1 t_cells_2 H locs ls h; exact h.elim
    | succ n_2 ih_2 =>
      intro x3_1 t_cells_2 H locs ls h hP hD hS hl
      rw [wl, wbX2_shift_2] at h
      refine lv_iload_n hx hb dX2_shift_2 rfl (lv_at hl 3 rfl) ?_
      refine lv_aload_n hx hb dX2_shift_3 rfl (lv_at hl 0 rfl) ?_
      refine va_get (v := .int t_size) hx hb hts iX2 hown hK hP 0 rfl rfl 2 (by decide) (hts _ mX2_shift_1) (fun _ h9 => h9) rfl dX2_shift_4 ?_
      obtain ⟨hp_3, hn_3⟩ := h
      refine lv_icmp_ge (tgt := 76) hx hb dX2_shift_7 (by decide) (fun hc => ?_) (fun hc => ?_)
      · have h := hp_3 hc
        subst hQ
        exact vr_V t_cells_2 hx hb hr hlk hP hD hS [0, 1] rfl rfl h dX2_shift_76
      · have h := hn_3 hc
        refine va_gets hx hb hT.1 hS hown (hts _ mX2_shift_2) (fun _ h9 => h9) dX2_shift_10 ?_
        refine lv_iload_n hx hb dX2_shift_13 rfl (lv_at hl 3 rfl) ?_
        obtain ⟨hi_4, h⟩ := h
        refine vs_ald hx hb hT hS hi_4 rfl dX2_shift_14 ?_
        refine lv_istore (lv' := [(4, .int (stI (x3_1.toNatClampNeg))), (0, .ref q_t), (1, .int a1), (2, .int a2), (3, .int x3_1)]) hx hb dX2_shift_15 hl (by decide) rfl (fun ls hl => ?_)
        refine lv_iload_n hx hb dX2_shift_17 rfl (lv_at hl 2 rfl) ?_
        refine lv_iload_n hx hb dX2_shift_18 rfl (lv_at hl 4 rfl) ?_
        refine lv_ishr hx hb dX2_shift_19 ?_
        refine lv_istore (lv' := [(5, .int (a1 >>> (x3_1 &&& 31))), (4, .int (stI (x3_1.toNatClampNeg))), (0, .ref q_t), (1, .int a1), (2, .int a2), (3, .int x3_1)]) hx hb dX2_shift_20 hl (by decide) rfl (fun ls hl => ?_)
        refine lv_iconst (v := 0) hx hb dX2_shift_22 (by decide) ?_
        refine lv_istore (lv' := [(6, .int (0 : Int32)), (5, .int (a1 >>> (x3_1 &&& 31))), (4, .int (stI (x3_1.toNatClampNeg))), (0, .ref q_t), (1, .int a1), (2, .int a2), (3, .int x3_1)]) hx hb dX2_shift_23 hl (by decide) rfl (fun ls hl => ?_)
        have hL_25 : ∀ (n_25 : Nat) (x6_5 : Int32) (t_cells_6 : (Nat → Int64)) (H : Heap) (locs : List Loc) (ls : Array Slot), wl (wbX2_shift_25 a1 a2 x3_1 (wl (wbX2_shift_2 t_size a1 a2 k) n_2)) n_25 (x6_5, t_cells_6) → va_P D vwCl ([(q_t, .inr (2, [.ref q_t_cells, .ref q_t_swept, .int t_size, .int t_rank, .long t_lower])), (q_t_cells, .inl (cJ, 15, .inr (.inl t_cells_6)))]) H → va_D A ([(q_t, .inr (2, [.ref q_t_cells, .ref q_t_swept, .int t_size, .int t_rank, .long t_lower])), (q_t_cells, .inl (cJ, 15, .inr (.inl t_cells_6)))]) → va_S A s.heap H locs → lv_has ls 7 [(0, .ref q_t), (1, .int a1), (2, .int a2), (3, .int x3_1), (4, .int (stI (x3_1.toNatClampNeg))), (5, .int (a1 >>> (x3_1 &&& 31))), (6, .int x6_5)] → W p l e rmX2_shift s m args below meth c H locs 0 0 Q (F0 m 25 ls []) := by
          intro n_25
          induction n_25 with
          | zero => intro x6_5 t_cells_6 H locs ls h; exact h.elim
          | succ n_25 ih_25 =>
            intro x6_5 t_cells_6 H locs ls h hP hD hS hl
            rw [wl, wbX2_shift_25] at h
            refine lv_iload hx hb dX2_shift_25 (lv_at hl 6 rfl) ?_
            refine lv_iload_n hx hb dX2_shift_27 rfl (lv_at hl 3 rfl) ?_
            obtain ⟨hp_7, hn_7⟩ := h
            refine lv_icmp_gt (tgt := 70) hx hb dX2_shift_28 (by decide) (fun hc => ?_) (fun hc => ?_)
            · have h := hp_7 hc
              refine lv_iinc (v := x3_1 + (1 : Int32)) (lv' := [(3, .int (x3_1 + (1 : Int32))), (0, .ref q_t), (1, .int a1), (2, .int a2), (4, .int (stI (x3_1.toNatClampNeg))), (5, .int (a1 >>> (x3_1 &&& 31))), (6, .int x6_5)]) hx hb dX2_shift_70 hl (k := 3) rfl rfl (by decide) rfl (fun ls hl => ?_)
              refine lv_goto (tgt := 2) hx hb dX2_shift_73 (by decide) ?_
              exact ih_2 (x3_1 + (1 : Int32)) t_cells_6 _ _ _ h hP hD hS (lv_sub hl [1, 2, 3, 0] rfl)
            · have h := hn_7 hc
              refine lv_aload_n hx hb dX2_shift_31 rfl (lv_at hl 0 rfl) ?_
              refine va_get (v := .ref q_t_cells) hx hb hts iX2 hown hK hP 0 rfl rfl 0 (by decide) (hts _ mX2_shift_3) (fun _ h9 => h9) rfl dX2_shift_32 ?_
              refine lv_iload hx hb dX2_shift_35 (lv_at hl 4 rfl) ?_
              refine lv_iload hx hb dX2_shift_37 (lv_at hl 6 rfl) ?_
              refine lv_iadd hx hb dX2_shift_39 ?_
              refine lv_dup2_11 hx hb dX2_shift_40 rfl rfl ?_
              obtain ⟨hi_8, h⟩ := h
              refine vl_ald hx hb hK hP 1 2 rfl rfl hi_8 rfl dX2_shift_41 ?_
              refine lv_iload hx hb dX2_shift_42 (lv_at hl 5 rfl) ?_
              refine lv_iload_n hx hb dX2_shift_44 rfl (lv_at hl 1 rfl) ?_
              refine lv_iload hx hb dX2_shift_45 (lv_at hl 6 rfl) ?_
              refine lv_ishr hx hb dX2_shift_47 ?_
              refine lv_ixor hx hb dX2_shift_48 ?_
              refine lv_iconst (v := 1) hx hb dX2_shift_49 (by decide) ?_
              refine lv_iand hx hb dX2_shift_50 ?_
              obtain ⟨hp_9, hn_9⟩ := h
              refine lv_if_ne (tgt := 59) hx hb dX2_shift_51 (by decide) (fun hc => ?_) (fun hc => ?_)
              · have h := hn_9 hc
                refine lv_iload_n hx hb dX2_shift_59 rfl (lv_at hl 2 rfl) ?_
                refine lv_ineg hx hb dX2_shift_60 ?_
                refine lv_i2l hx hb dX2_shift_61 rfl ?_
                refine lv_ladd hx hb dX2_shift_62 ?_
                obtain ⟨hi_10, h⟩ := h
                refine vl_ast (x := (t_cells_6 (((stI (x3_1.toNatClampNeg)) + x6_5).toNatClampNeg)) + ((-a2).toInt64)) hx hb hK hP hD hS 1 2 rfl rfl hi_10 rfl dX2_shift_63 (fun H locs hP hD hS => ?_)
                have hP : va_P D vwCl ([(q_t, .inr (2, [.ref q_t_cells, .ref q_t_swept, .int t_size, .int t_rank, .long t_lower])), (q_t_cells, .inl (cJ, 15, .inr (.inl (vp_updL t_cells_6 (((stI (x3_1.toNatClampNeg)) + x6_5).toNatClampNeg) ((t_cells_6 (((stI (x3_1.toNatClampNeg)) + x6_5).toNatClampNeg)) + ((-a2).toInt64))))))]) H := hP
                have hD : va_D A ([(q_t, .inr (2, [.ref q_t_cells, .ref q_t_swept, .int t_size, .int t_rank, .long t_lower])), (q_t_cells, .inl (cJ, 15, .inr (.inl (vp_updL t_cells_6 (((stI (x3_1.toNatClampNeg)) + x6_5).toNatClampNeg) ((t_cells_6 (((stI (x3_1.toNatClampNeg)) + x6_5).toNatClampNeg)) + ((-a2).toInt64))))))]) := hD
                refine lv_iinc (v := x6_5 + (1 : Int32)) (lv' := [(6, .int (x6_5 + (1 : Int32))), (0, .ref q_t), (1, .int a1), (2, .int a2), (3, .int x3_1), (4, .int (stI (x3_1.toNatClampNeg))), (5, .int (a1 >>> (x3_1 &&& 31)))]) hx hb dX2_shift_64 hl (k := 6) rfl rfl (by decide) rfl (fun ls hl => ?_)
                refine lv_goto (tgt := 25) hx hb dX2_shift_67 (by decide) ?_
                exact ih_25 (x6_5 + (1 : Int32)) (vp_updL t_cells_6 (((stI (x3_1.toNatClampNeg)) + x6_5).toNatClampNeg) ((t_cells_6 (((stI (x3_1.toNatClampNeg)) + x6_5).toNatClampNeg)) + ((-a2).toInt64))) _ _ _ h hP hD hS (lv_sub hl [1, 2, 3, 4, 5, 6, 0] rfl)
              · have h := hp_9 hc
                refine lv_iload_n hx hb dX2_shift_54 rfl (lv_at hl 2 rfl) ?_
                refine lv_i2l hx hb dX2_shift_55 rfl ?_
                refine lv_goto (tgt := 62) hx hb dX2_shift_56 (by decide) ?_
                refine lv_ladd hx hb dX2_shift_62 ?_
                obtain ⟨hi_11, h⟩ := h
                refine vl_ast (x := (t_cells_6 (((stI (x3_1.toNatClampNeg)) + x6_5).toNatClampNeg)) + (a2.toInt64)) hx hb hK hP hD hS 1 2 rfl rfl hi_11 rfl dX2_shift_63 (fun H locs hP hD hS => ?_)
                have hP : va_P D vwCl ([(q_t, .inr (2, [.ref q_t_cells, .ref q_t_swept, .int t_size, .int t_rank, .long t_lower])), (q_t_cells, .inl (cJ, 15, .inr (.inl (vp_updL t_cells_6 (((stI (x3_1.toNatClampNeg)) + x6_5).toNatClampNeg) ((t_cells_6 (((stI (x3_1.toNatClampNeg)) + x6_5).toNatClampNeg)) + (a2.toInt64))))))]) H := hP
                have hD : va_D A ([(q_t, .inr (2, [.ref q_t_cells, .ref q_t_swept, .int t_size, .int t_rank, .long t_lower])), (q_t_cells, .inl (cJ, 15, .inr (.inl (vp_updL t_cells_6 (((stI (x3_1.toNatClampNeg)) + x6_5).toNatClampNeg) ((t_cells_6 (((stI (x3_1.toNatClampNeg)) + x6_5).toNatClampNeg)) + (a2.toInt64))))))]) := hD
                refine lv_iinc (v := x6_5 + (1 : Int32)) (lv' := [(6, .int (x6_5 + (1 : Int32))), (0, .ref q_t), (1, .int a1), (2, .int a2), (3, .int x3_1), (4, .int (stI (x3_1.toNatClampNeg))), (5, .int (a1 >>> (x3_1 &&& 31)))]) hx hb dX2_shift_64 hl (k := 6) rfl rfl (by decide) rfl (fun ls hl => ?_)
                refine lv_goto (tgt := 25) hx hb dX2_shift_67 (by decide) ?_
                exact ih_25 (x6_5 + (1 : Int32)) (vp_updL t_cells_6 (((stI (x3_1.toNatClampNeg)) + x6_5).toNatClampNeg) ((t_cells_6 (((stI (x3_1.toNatClampNeg)) + x6_5).toNatClampNeg)) + (a2.toInt64))) _ _ _ h hP hD hS (lv_sub hl [1, 2, 3, 4, 5, 6, 0] rfl)
        obtain ⟨n_25, h⟩ := h
        exact hL_25 n_25 (0 : Int32) t_cells_2 _ _ _ h hP hD hS (lv_sub hl [3, 4, 5, 6, 2, 1, 0] rfl)
  obtain ⟨n_2, h⟩ := h
  exact hL_2 n_2 (0 : Int32) t_cells _ _ _ h hP hD hS (lv_sub hl [1, 2, 3, 0] rfl)
theorem mX2_fill_1 : Cond.fieldLink RX2 43 "TrialDesk$Desk" "termCount" "I" ∈ wsX2_fill := List.mem_of_getElem? (i := 1) (by decide +kernel)
abbrev rmX2_fill : Room := { frames := 2, cells := 0, slots := 0, locals := 45 }
set_option maxHeartbeats 4000000 in
set_option maxRecDepth 100000 in
theorem ctX2_fill (l : Launch) (D : va_G) (cB cI cJ cZ cR : ClassId) (tz : Nat) (q_t : Nat) (q_t_cells : Nat) (q_t_swept : Nat) (q_p1 : Nat) (q_p1_terms : Nat) (q_p1_times : Nat) (q_p1_words : Nat) (q_p1_wordMarks : Nat) (q_p1_seenTimes : Nat) (q_p1_seenSums : Nat) (q_p2 : Nat) (t_size : Int32) (t_rank : Int32) (t_lower : Int64) (t_cells : (Nat → Int64)) (p1_factorCount : Int32) (p1_termCount : Int32) (p1_trialCount : Int32) (p1_seenCount : Int32) (p1_seenSquares : Int64) (p1_terms : (Nat → Int32)) (p2 : (Nat → Int32)) (k : (Nat → Int64) → Int32 → Prop) (h : wpX2_fill t_cells t_size p1_factorCount p1_termCount p1_terms p2 k) : MV l yX2_fill wsX2_fill rmX2_fill D (vTy cB cI cJ cZ cR) tz [.ref q_t, .ref q_p1, .ref q_p2] ([(q_t, .inr (2, [.ref q_t_cells, .ref q_t_swept, .int t_size, .int t_rank, .long t_lower])), (q_t_cells, .inl (cJ, 15, .inr (.inl t_cells))), (q_p1, .inr (1, [.int p1_factorCount, .int p1_termCount, .int p1_trialCount, .int p1_seenCount, .long p1_seenSquares, .ref q_p1_terms, .ref q_p1_times, .ref q_p1_words, .ref q_p1_wordMarks, .ref q_p1_seenTimes, .ref q_p1_seenSums])), (q_p1_terms, .inl (cI, 5, .inl p1_terms)), (q_p2, .inl (cI, 64, .inl p2))]) (fun (u : (Nat → Int64) × Int32) => k u.1 u.2) (fun (u : (Nat → Int64) × Int32) => [(q_t, .inr (2, [.ref q_t_cells, .ref q_t_swept, .int (u.2), .int t_rank, .long t_lower])), (q_t_cells, .inl (cJ, 15, .inr (.inl (u.1)))), (q_p1, .inr (1, [.int p1_factorCount, .int p1_termCount, .int p1_trialCount, .int p1_seenCount, .long p1_seenSquares, .ref q_p1_terms, .ref q_p1_times, .ref q_p1_words, .ref q_p1_wordMarks, .ref q_p1_seenTimes, .ref q_p1_seenSums])), (q_p1_terms, .inl (cI, 5, .inl p1_terms)), (q_p2, .inl (cI, 64, .inl p2))]) 0 0 := by
  refine MV.of (cc := cX2_fill) (maxL := 5) (ret := none) (by decide) rfl (Nat.le_of_ble_eq_true rfl) ?_
  intro p e s m args below meth c A ls Q hQ E
  obtain ⟨hx, hb, hml, hr, hts, hown, hlk, hin, hP, hK, hD, hS, hA, hT, hl⟩ := E
  have hown : s.vm.findClass RX2 = some m.cls := hown
  have hl : lv_has ls 5 [(0, .ref q_t), (1, .ref q_p1), (2, .ref q_p2)] := hl
  have iX1 : ∀ w ∈ wsX10, w ∈ wsX2_fill := fun _ h => List.mem_cons_of_mem _ (List.mem_append_left _ (List.mem_append_right _ h))
  unfold wpX2_fill at h
  refine lv_aload_n hx hb dX2_fill_0 rfl (lv_at hl 0 rfl) ?_
  refine lv_aload_n hx hb dX2_fill_1 rfl (lv_at hl 1 rfl) ?_
  refine va_get (v := .int p1_termCount) hx hb hts iX1 hown hK hP 2 rfl rfl 1 (by decide) (hts _ mX2_fill_1) (fun _ h9 => h9) rfl dX2_fill_2 ?_
  refine vc_VV (As := [.int p1_termCount]) (rest := []) (wr := [(q_p1, .inr (1, [.int p1_factorCount, .int p1_termCount, .int p1_trialCount, .int p1_seenCount, .long p1_seenSquares, .ref q_p1_terms, .ref q_p1_times, .ref q_p1_words, .ref q_p1_wordMarks, .ref q_p1_seenTimes, .ref q_p1_seenSums])), (q_p1_terms, .inl (cI, 5, .inl p1_terms)), (q_p2, .inl (cI, 64, .inl p2))]) ⟨hx, hb, hml, hown, hts⟩ (ctX2_empty l D cB cI cJ cZ cR tz q_t q_t_cells q_t_swept t_size t_rank t_lower t_cells p1_termCount _ h) (cwV 1 hts gX2_fill_X2_empty rfl rfl rfl hdX2_empty ⟨Nat.le_of_ble_eq_true rfl, Nat.le_of_ble_eq_true rfl⟩) hK hP hD hS hA hT [0, 1] [2, 3, 4] rfl rfl rfl rfl (by decide) 0 2 rfl rfl rfl rfl hl.1 (Nat.le_of_ble_eq_true rfl) dX2_fill_5 ⟨Nat.le_of_ble_eq_true rfl, Nat.le_of_ble_eq_true rfl⟩ (fun u9 H locs h hP hD hS => ?_)
  obtain ⟨t_cells_1, t_size_2⟩ := u9
  have hP : va_P D vwCl ([(q_t, .inr (2, [.ref q_t_cells, .ref q_t_swept, .int t_size_2, .int t_rank, .long t_lower])), (q_t_cells, .inl (cJ, 15, .inr (.inl t_cells_1))), (q_p1, .inr (1, [.int p1_factorCount, .int p1_termCount, .int p1_trialCount, .int p1_seenCount, .long p1_seenSquares, .ref q_p1_terms, .ref q_p1_times, .ref q_p1_words, .ref q_p1_wordMarks, .ref q_p1_seenTimes, .ref q_p1_seenSums])), (q_p1_terms, .inl (cI, 5, .inl p1_terms)), (q_p2, .inl (cI, 64, .inl p2))]) H := hP.sub [3, 4, 0, 1, 2] rfl
  have hD : va_D A ([(q_t, .inr (2, [.ref q_t_cells, .ref q_t_swept, .int t_size_2, .int t_rank, .long t_lower])), (q_t_cells, .inl (cJ, 15, .inr (.inl t_cells_1))), (q_p1, .inr (1, [.int p1_factorCount, .int p1_termCount, .int p1_trialCount, .int p1_seenCount, .long p1_seenSquares, .ref q_p1_terms, .ref q_p1_times, .ref q_p1_words, .ref q_p1_wordMarks, .ref q_p1_seenTimes, .ref q_p1_seenSums])), (q_p1_terms, .inl (cI, 5, .inl p1_terms)), (q_p2, .inl (cI, 64, .inl p2))]) := hD.sub [3, 4, 0, 1, 2] rfl rfl
  try dsimp only at h
  refine lv_aload_n hx hb dX2_fill_8 rfl (lv_at hl 1 rfl) ?_
  refine vc_VI (As := []) (rest := []) (wr := [(q_t, .inr (2, [.ref q_t_cells, .ref q_t_swept, .int t_size_2, .int t_rank, .long t_lower])), (q_t_cells, .inl (cJ, 15, .inr (.inl t_cells_1))), (q_p1_terms, .inl (cI, 5, .inl p1_terms)), (q_p2, .inl (cI, 64, .inl p2))]) ⟨hx, hb, hml, hown, hts⟩ (ctX1_settingCount l D cB cI cJ cZ cR tz q_p1 q_p1_terms q_p1_times q_p1_words q_p1_wordMarks q_p1_seenTimes q_p1_seenSums p1_factorCount p1_termCount p1_trialCount p1_seenCount p1_seenSquares _ h) (cwV 0 hts gX2_fill_X1_settingCount rfl rfl rfl hdX1_settingCount ⟨Nat.le_of_ble_eq_true rfl, Nat.le_of_ble_eq_true rfl⟩) hK hP hD hS hA hT [2] [0, 1, 3, 4] rfl rfl rfl rfl (by decide) 2 1 rfl rfl rfl rfl hl.1 (Nat.le_of_ble_eq_true rfl) dX2_fill_9 ⟨Nat.le_of_ble_eq_true rfl, Nat.le_of_ble_eq_true rfl⟩ (fun r_3 u9 H locs h hP hD hS => ?_)
  have hP : va_P D vwCl ([(q_t, .inr (2, [.ref q_t_cells, .ref q_t_swept, .int t_size_2, .int t_rank, .long t_lower])), (q_t_cells, .inl (cJ, 15, .inr (.inl t_cells_1))), (q_p1, .inr (1, [.int p1_factorCount, .int p1_termCount, .int p1_trialCount, .int p1_seenCount, .long p1_seenSquares, .ref q_p1_terms, .ref q_p1_times, .ref q_p1_words, .ref q_p1_wordMarks, .ref q_p1_seenTimes, .ref q_p1_seenSums])), (q_p1_terms, .inl (cI, 5, .inl p1_terms)), (q_p2, .inl (cI, 64, .inl p2))]) H := hP.sub [0, 1, 4, 2, 3] rfl
  have hD : va_D A ([(q_t, .inr (2, [.ref q_t_cells, .ref q_t_swept, .int t_size_2, .int t_rank, .long t_lower])), (q_t_cells, .inl (cJ, 15, .inr (.inl t_cells_1))), (q_p1, .inr (1, [.int p1_factorCount, .int p1_termCount, .int p1_trialCount, .int p1_seenCount, .long p1_seenSquares, .ref q_p1_terms, .ref q_p1_times, .ref q_p1_words, .ref q_p1_wordMarks, .ref q_p1_seenTimes, .ref q_p1_seenSums])), (q_p1_terms, .inl (cI, 5, .inl p1_terms)), (q_p2, .inl (cI, 64, .inl p2))]) := hD.sub [0, 1, 4, 2, 3] rfl rfl
  try dsimp only at h
  refine lv_istore_n (lv' := [(3, .int r_3), (0, .ref q_t), (1, .ref q_p1), (2, .ref q_p2)]) hx hb dX2_fill_12 rfl hl (by decide) rfl (fun ls hl => ?_)
  refine lv_iconst (v := 0) hx hb dX2_fill_13 (by decide) ?_
  refine lv_istore (lv' := [(4, .int (0 : Int32)), (3, .int r_3), (0, .ref q_t), (1, .ref q_p1), (2, .ref q_p2)]) hx hb dX2_fill_14 hl (by decide) rfl (fun ls hl => ?_)
  have hL_16 : ∀ (n_16 : Nat) (x4_4 : Int32) (t_cells_5 : (Nat → Int64)) (H : Heap) (locs : List Loc) (ls : Array Slot), wl (wbX2_fill_16 p1_termCount p1_terms p2 k t_size_2 r_3) n_16 (x4_4, t_cells_5) → va_P D vwCl ([(q_t, .inr (2, [.ref q_t_cells, .ref q_t_swept, .int t_size_2, .int t_rank, .long t_lower])), (q_t_cells, .inl (cJ, 15, .inr (.inl t_cells_5))), (q_p1, .inr (1, [.int p1_factorCount, .int p1_termCount, .int p1_trialCount, .int p1_seenCount, .long p1_seenSquares, .ref q_p1_terms, .ref q_p1_times, .ref q_p1_words, .ref q_p1_wordMarks, .ref q_p1_seenTimes, .ref q_p1_seenSums])), (q_p1_terms, .inl (cI, 5, .inl p1_terms)), (q_p2, .inl (cI, 64, .inl p2))]) H → va_D A ([(q_t, .inr (2, [.ref q_t_cells, .ref q_t_swept, .int t_size_2, .int t_rank, .long t_lower])), (q_t_cells, .inl (cJ, 15, .inr (.inl t_cells_5))), (q_p1, .inr (1, [.int p1_factorCount, .int p1_termCount, .int p1_trialCount, .int p1_seenCount, .long p1_seenSquares, .ref q_p1_terms, .ref q_p1_times, .ref q_p1_words, .ref q_p1_wordMarks, .ref q_p1_seenTimes, .ref q_p1_seenSums])), (q_p1_terms, .inl (cI, 5, .inl p1_terms)), (q_p2, .inl (cI, 64, .inl p2))]) → va_S A s.heap H locs → lv_has ls 5 [(0, .ref q_t), (1, .ref q_p1), (2, .ref q_p2), (3, .int r_3), (4, .int x4_4)] → W p l e rmX2_fill s m args below meth c H locs 0 0 Q (F0 m 16 ls []) := by
    intro n_16
    induction n_16 with
    | zero => intro x4_4 t_cells_5 H locs ls h; exact h.elim
    | succ n_16 ih_16 =>
      intro x4_4 t_cells_5 H locs ls h hP hD hS hl
      rw [wl, wbX2_fill_16] at h
      refine lv_iload hx hb dX2_fill_16 (lv_at hl 4 rfl) ?_
      refine lv_iload_n hx hb dX2_fill_18 rfl (lv_at hl 3 rfl) ?_
      obtain ⟨hp_6, hn_6⟩ := h
      refine lv_icmp_ge (tgt := 49) hx hb dX2_fill_19 (by decide) (fun hc => ?_) (fun hc => ?_)
      · have h := hp_6 hc
        subst hQ
        exact vr_V (t_cells_5, t_size_2) hx hb hr hlk hP hD hS [0, 1, 2, 3, 4] rfl rfl h dX2_fill_49
      · have h := hn_6 hc
        refine lv_aload_n hx hb dX2_fill_22 rfl (lv_at hl 2 rfl) ?_
        refine lv_iload hx hb dX2_fill_23 (lv_at hl 4 rfl) ?_
        obtain ⟨hi_7, h⟩ := h
        refine vi_ald hx hb hK hP 4 1 rfl rfl hi_7 rfl dX2_fill_25 ?_
        obtain ⟨hp_8, hn_8⟩ := h
        refine lv_if_le (tgt := 43) hx hb dX2_fill_26 (by decide) (fun hc => ?_) (fun hc => ?_)
        · have h := hp_8 hc
          refine lv_iinc (v := x4_4 + (1 : Int32)) (lv' := [(4, .int (x4_4 + (1 : Int32))), (0, .ref q_t), (1, .ref q_p1), (2, .ref q_p2), (3, .int r_3)]) hx hb dX2_fill_43 hl (k := 4) rfl rfl (by decide) rfl (fun ls hl => ?_)
          refine lv_goto (tgt := 16) hx hb dX2_fill_46 (by decide) ?_
          exact ih_16 (x4_4 + (1 : Int32)) t_cells_5 _ _ _ h hP hD hS (lv_sub hl [1, 2, 3, 4, 0] rfl)
        · have h := hn_8 hc
          refine lv_aload_n hx hb dX2_fill_29 rfl (lv_at hl 0 rfl) ?_
          refine lv_aload_n hx hb dX2_fill_30 rfl (lv_at hl 1 rfl) ?_
          refine lv_iload hx hb dX2_fill_31 (lv_at hl 4 rfl) ?_
          refine vc_VI (As := [.int x4_4]) (rest := [.ref q_t]) (wr := [(q_t, .inr (2, [.ref q_t_cells, .ref q_t_swept, .int t_size_2, .int t_rank, .long t_lower])), (q_t_cells, .inl (cJ, 15, .inr (.inl t_cells_5))), (q_p2, .inl (cI, 64, .inl p2))]) ⟨hx, hb, hml, hown, hts⟩ (ctX1_signsAt l D cB cI cJ cZ cR tz q_p1 q_p1_terms q_p1_times q_p1_words q_p1_wordMarks q_p1_seenTimes q_p1_seenSums p1_factorCount p1_termCount p1_trialCount p1_seenCount p1_seenSquares p1_terms x4_4 _ h) (cwV 1 hts gX2_fill_X1_signsAt rfl rfl rfl hdX1_signsAt ⟨Nat.le_of_ble_eq_true rfl, Nat.le_of_ble_eq_true rfl⟩) hK hP hD hS hA hT [2, 3] [0, 1, 4] rfl rfl rfl rfl (by decide) 2 1 rfl rfl rfl rfl hl.1 (Nat.le_of_ble_eq_true rfl) dX2_fill_33 ⟨Nat.le_of_ble_eq_true rfl, Nat.le_of_ble_eq_true rfl⟩ (fun r_9 u9 H locs h hP hD hS => ?_)
          have hP : va_P D vwCl ([(q_t, .inr (2, [.ref q_t_cells, .ref q_t_swept, .int t_size_2, .int t_rank, .long t_lower])), (q_t_cells, .inl (cJ, 15, .inr (.inl t_cells_5))), (q_p1, .inr (1, [.int p1_factorCount, .int p1_termCount, .int p1_trialCount, .int p1_seenCount, .long p1_seenSquares, .ref q_p1_terms, .ref q_p1_times, .ref q_p1_words, .ref q_p1_wordMarks, .ref q_p1_seenTimes, .ref q_p1_seenSums])), (q_p1_terms, .inl (cI, 5, .inl p1_terms)), (q_p2, .inl (cI, 64, .inl p2))]) H := hP.sub [0, 1, 3, 4, 2] rfl
          have hD : va_D A ([(q_t, .inr (2, [.ref q_t_cells, .ref q_t_swept, .int t_size_2, .int t_rank, .long t_lower])), (q_t_cells, .inl (cJ, 15, .inr (.inl t_cells_5))), (q_p1, .inr (1, [.int p1_factorCount, .int p1_termCount, .int p1_trialCount, .int p1_seenCount, .long p1_seenSquares, .ref q_p1_terms, .ref q_p1_times, .ref q_p1_words, .ref q_p1_wordMarks, .ref q_p1_seenTimes, .ref q_p1_seenSums])), (q_p1_terms, .inl (cI, 5, .inl p1_terms)), (q_p2, .inl (cI, 64, .inl p2))]) := hD.sub [0, 1, 3, 4, 2] rfl rfl
          try dsimp only at h
          refine lv_aload_n hx hb dX2_fill_36 rfl (lv_at hl 2 rfl) ?_
          refine lv_iload hx hb dX2_fill_37 (lv_at hl 4 rfl) ?_
          obtain ⟨hi_10, h⟩ := h
          refine vi_ald hx hb hK hP 4 1 rfl rfl hi_10 rfl dX2_fill_39 ?_
          refine vc_VV (As := [.int r_9, .int (p2 (x4_4.toNatClampNeg))]) (rest := []) (wr := [(q_p1, .inr (1, [.int p1_factorCount, .int p1_termCount, .int p1_trialCount, .int p1_seenCount, .long p1_seenSquares, .ref q_p1_terms, .ref q_p1_times, .ref q_p1_words, .ref q_p1_wordMarks, .ref q_p1_seenTimes, .ref q_p1_seenSums])), (q_p1_terms, .inl (cI, 5, .inl p1_terms)), (q_p2, .inl (cI, 64, .inl p2))]) ⟨hx, hb, hml, hown, hts⟩ (ctX2_shift l D cB cI cJ cZ cR tz q_t q_t_cells q_t_swept t_size_2 t_rank t_lower t_cells_5 r_9 (p2 (x4_4.toNatClampNeg)) _ h) (cwV 2 hts gX2_fill_X2_shift rfl rfl rfl hdX2_shift ⟨Nat.le_of_ble_eq_true rfl, Nat.le_of_ble_eq_true rfl⟩) hK hP hD hS hA hT [0, 1] [2, 3, 4] rfl rfl rfl rfl (by decide) 0 2 rfl rfl rfl rfl hl.1 (Nat.le_of_ble_eq_true rfl) dX2_fill_40 ⟨Nat.le_of_ble_eq_true rfl, Nat.le_of_ble_eq_true rfl⟩ (fun t_cells_11 H locs h hP hD hS => ?_)
          have hP : va_P D vwCl ([(q_t, .inr (2, [.ref q_t_cells, .ref q_t_swept, .int t_size_2, .int t_rank, .long t_lower])), (q_t_cells, .inl (cJ, 15, .inr (.inl t_cells_11))), (q_p1, .inr (1, [.int p1_factorCount, .int p1_termCount, .int p1_trialCount, .int p1_seenCount, .long p1_seenSquares, .ref q_p1_terms, .ref q_p1_times, .ref q_p1_words, .ref q_p1_wordMarks, .ref q_p1_seenTimes, .ref q_p1_seenSums])), (q_p1_terms, .inl (cI, 5, .inl p1_terms)), (q_p2, .inl (cI, 64, .inl p2))]) H := hP.sub [3, 4, 0, 1, 2] rfl
          have hD : va_D A ([(q_t, .inr (2, [.ref q_t_cells, .ref q_t_swept, .int t_size_2, .int t_rank, .long t_lower])), (q_t_cells, .inl (cJ, 15, .inr (.inl t_cells_11))), (q_p1, .inr (1, [.int p1_factorCount, .int p1_termCount, .int p1_trialCount, .int p1_seenCount, .long p1_seenSquares, .ref q_p1_terms, .ref q_p1_times, .ref q_p1_words, .ref q_p1_wordMarks, .ref q_p1_seenTimes, .ref q_p1_seenSums])), (q_p1_terms, .inl (cI, 5, .inl p1_terms)), (q_p2, .inl (cI, 64, .inl p2))]) := hD.sub [3, 4, 0, 1, 2] rfl rfl
          try dsimp only at h
          refine lv_iinc (v := x4_4 + (1 : Int32)) (lv' := [(4, .int (x4_4 + (1 : Int32))), (0, .ref q_t), (1, .ref q_p1), (2, .ref q_p2), (3, .int r_3)]) hx hb dX2_fill_43 hl (k := 4) rfl rfl (by decide) rfl (fun ls hl => ?_)
          refine lv_goto (tgt := 16) hx hb dX2_fill_46 (by decide) ?_
          exact ih_16 (x4_4 + (1 : Int32)) t_cells_11 _ _ _ h hP hD hS (lv_sub hl [1, 2, 3, 4, 0] rfl)
  obtain ⟨n_16, h⟩ := h
  exact hL_16 n_16 (0 : Int32) t_cells_1 _ _ _ h hP hD hS (lv_sub hl [2, 3, 4, 1, 0] rfl)
theorem mX2_determinant_1 : Cond.fieldLink RX2 19 "TrialDesk$Grid" "size" "I" ∈ wsX2_determinant := List.mem_of_getElem? (i := 1) (by decide +kernel)
theorem mX2_determinant_2 : Cond.fieldLink RX2 9 "TrialDesk$Grid" "cells" "[J" ∈ wsX2_determinant := List.mem_of_getElem? (i := 2) (by decide +kernel)
theorem mX2_determinant_3 : Cond.fieldLink RX2 27 "TrialDesk$Grid" "START" "[I" ∈ wsX2_determinant := List.mem_of_getElem? (i := 3) (by decide +kernel)
abbrev rmX2_determinant : Room := { frames := 0, cells := 0, slots := 0, locals := 0 }
set_option maxHeartbeats 4000000 in
set_option maxRecDepth 100000 in
theorem ctX2_determinant (l : Launch) (D : va_G) (cB cI cJ cZ cR : ClassId) (tz : Nat) (q_t : Nat) (q_t_cells : Nat) (q_t_swept : Nat) (t_size : Int32) (t_rank : Int32) (t_lower : Int64) (t_cells : (Nat → Int64)) (k : Int64 → (Nat → Int64) → Prop) (h : wpX2_determinant t_cells t_size k) : ML l yX2_determinant wsX2_determinant rmX2_determinant D (vTy cB cI cJ cZ cR) tz [.ref q_t] ([(q_t, .inr (2, [.ref q_t_cells, .ref q_t_swept, .int t_size, .int t_rank, .long t_lower])), (q_t_cells, .inl (cJ, 15, .inr (.inl t_cells)))]) (fun (r : Int64) (u : (Nat → Int64)) => k r u) (fun (u : (Nat → Int64)) => [(q_t, .inr (2, [.ref q_t_cells, .ref q_t_swept, .int t_size, .int t_rank, .long t_lower])), (q_t_cells, .inl (cJ, 15, .inr (.inl u)))]) 0 0 := by
  refine ML.of (cc := cX2_determinant) (maxL := 11) (ret := (some .long)) (by decide) rfl (Nat.le_of_ble_eq_true rfl) ?_
  intro p e s m args below meth c A ls Q hQ E
  obtain ⟨hx, hb, hml, hr, hts, hown, hlk, hin, hP, hK, hD, hS, hA, hT, hl⟩ := E
  have hown : s.vm.findClass RX2 = some m.cls := hown
  have hl : lv_has ls 11 [(0, .ref q_t)] := hl
  have iX2 : ∀ w ∈ wsX20, w ∈ wsX2_determinant := fun _ h => List.mem_cons_of_mem _ (List.mem_append_right _ h)
  unfold wpX2_determinant at h
  refine lv_lconst (v := 1) hx hb dX2_determinant_0 (by decide) ?_
  refine lv_lstore_n (lv' := [(1, .long (1 : Int64)), (0, .ref q_t)]) hx hb dX2_determinant_1 rfl hl (by decide) rfl (fun ls hl => ?_)
  refine lv_iconst (v := 0) hx hb dX2_determinant_2 (by decide) ?_
  refine lv_istore_n (lv' := [(3, .int (0 : Int32)), (1, .long (1 : Int64)), (0, .ref q_t)]) hx hb dX2_determinant_3 rfl hl (by decide) rfl (fun ls hl => ?_)
  have hL_4 : ∀ (n_4 : Nat) (x1_1 : Int64) (x3_2 : Int32) (t_cells_3 : (Nat → Int64)) (H : Heap) (locs : List Loc) (ls : Array Slot), wl (wbX2_determinant_4 t_size k) n_4 (x1_1, x3_2, t_cells_3) → va_P D vwCl ([(q_t, .inr (2, [.ref q_t_cells, .ref q_t_swept, .int t_size, .int t_rank, .long t_lower])), (q_t_cells, .inl (cJ, 15, .inr (.inl t_cells_3)))]) H → va_D A ([(q_t, .inr (2, [.ref q_t_cells, .ref q_t_swept, .int t_size, .int t_rank, .long t_lower])), (q_t_cells, .inl (cJ, 15, .inr (.inl t_cells_3)))]) → va_S A s.heap H locs → lv_has ls 11 [(0, .ref q_t), (1, .long x1_1), (3, .int x3_2)] → W p l e rmX2_determinant s m args below meth c H locs 0 0 Q (F0 m 4 ls []) := by
    intro n_4
    induction n_4 with
    | zero => intro x1_1 x3_2 t_cells_3 H locs ls h; exact h.elim
    | succ n_4 ih_4 =>
      intro x1_1 x3_2 t_cells_3 H locs ls h hP hD hS hl
      rw [wl, wbX2_determinant_4] at h
      refine lv_iload_n hx hb dX2_determinant_4 rfl (lv_at hl 2 rfl) ?_
      refine lv_aload_n hx hb dX2_determinant_5 rfl (lv_at hl 0 rfl) ?_
      refine va_get (v := .int t_size) hx hb hts iX2 hown hK hP 0 rfl rfl 2 (by decide) (hts _ mX2_determinant_1) (fun _ h9 => h9) rfl dX2_determinant_6 ?_
      refine lv_iconst (v := 1) hx hb dX2_determinant_9 (by decide) ?_
      refine lv_isub hx hb dX2_determinant_10 ?_
      obtain ⟨hp_4, hn_4⟩ := h
      refine lv_icmp_ge (tgt := 146) hx hb dX2_determinant_11 (by decide) (fun hc => ?_) (fun hc => ?_)
      · have h := hp_4 hc
        refine lv_aload_n hx hb dX2_determinant_146 rfl (lv_at hl 0 rfl) ?_
        refine va_get (v := .ref q_t_cells) hx hb hts iX2 hown hK hP 0 rfl rfl 0 (by decide) (hts _ mX2_determinant_2) (fun _ h9 => h9) rfl dX2_determinant_147 ?_
        refine va_gets hx hb hT.1 hS hown (hts _ mX2_determinant_3) (fun _ h9 => h9) dX2_determinant_150 ?_
        refine lv_aload_n hx hb dX2_determinant_153 rfl (lv_at hl 0 rfl) ?_
        refine va_get (v := .int t_size) hx hb hts iX2 hown hK hP 0 rfl rfl 2 (by decide) (hts _ mX2_determinant_1) (fun _ h9 => h9) rfl dX2_determinant_154 ?_
        refine lv_iconst (v := 1) hx hb dX2_determinant_157 (by decide) ?_
        refine lv_isub hx hb dX2_determinant_158 ?_
        obtain ⟨hi_5, h⟩ := h
        refine vs_ald hx hb hT hS hi_5 rfl dX2_determinant_159 ?_
        refine lv_aload_n hx hb dX2_determinant_160 rfl (lv_at hl 0 rfl) ?_
        refine va_get (v := .int t_size) hx hb hts iX2 hown hK hP 0 rfl rfl 2 (by decide) (hts _ mX2_determinant_1) (fun _ h9 => h9) rfl dX2_determinant_161 ?_
        refine lv_iadd hx hb dX2_determinant_164 ?_
        refine lv_iconst (v := 1) hx hb dX2_determinant_165 (by decide) ?_
        refine lv_isub hx hb dX2_determinant_166 ?_
        obtain ⟨hi_6, h⟩ := h
        refine vl_ald hx hb hK hP 1 2 rfl rfl hi_6 rfl dX2_determinant_167 ?_
        subst hQ
        exact vr_L (v := t_cells_3 ((((stI ((t_size - (1 : Int32)).toNatClampNeg)) + t_size) - (1 : Int32)).toNatClampNeg)) t_cells_3 hx hb hr hlk hP hD hS [0, 1] rfl rfl h dX2_determinant_168
      · have h := hn_4 hc
        refine lv_aload_n hx hb dX2_determinant_14 rfl (lv_at hl 0 rfl) ?_
        refine va_get (v := .ref q_t_cells) hx hb hts iX2 hown hK hP 0 rfl rfl 0 (by decide) (hts _ mX2_determinant_2) (fun _ h9 => h9) rfl dX2_determinant_15 ?_
        refine va_gets hx hb hT.1 hS hown (hts _ mX2_determinant_3) (fun _ h9 => h9) dX2_determinant_18 ?_
        refine lv_iload_n hx hb dX2_determinant_21 rfl (lv_at hl 2 rfl) ?_
        obtain ⟨hi_7, h⟩ := h
        refine vs_ald hx hb hT hS hi_7 rfl dX2_determinant_22 ?_
        refine lv_iload_n hx hb dX2_determinant_23 rfl (lv_at hl 2 rfl) ?_
        refine lv_iadd hx hb dX2_determinant_24 ?_
        obtain ⟨hi_8, h⟩ := h
        refine vl_ald hx hb hK hP 1 2 rfl rfl hi_8 rfl dX2_determinant_25 ?_
        refine lv_lstore (lv' := [(4, .long (t_cells_3 (((stI (x3_2.toNatClampNeg)) + x3_2).toNatClampNeg))), (0, .ref q_t), (1, .long x1_1), (3, .int x3_2)]) hx hb dX2_determinant_26 hl (by decide) rfl (fun ls hl => ?_)
        refine lv_lload hx hb dX2_determinant_28 (lv_at hl 0 rfl) ?_
        refine lv_lconst (v := 0) hx hb dX2_determinant_30 (by decide) ?_
        refine W.lcmp hx hb dX2_determinant_31 ?_
        obtain ⟨hp_9, hn_9⟩ := h
        refine lv_if_gt (tgt := 37) hx hb dX2_determinant_32 (by decide) (fun hc => ?_) (fun hc => ?_)
        · have h := hp_9 ((lg_cmp_gt (t_cells_3 (((stI (x3_2.toNatClampNeg)) + x3_2).toNatClampNeg)) (0 : Int64)).mp hc)
          refine lv_iload_n hx hb dX2_determinant_37 rfl (lv_at hl 3 rfl) ?_
          refine lv_iconst (v := 1) hx hb dX2_determinant_38 (by decide) ?_
          refine lv_iadd hx hb dX2_determinant_39 ?_
          refine lv_istore (lv' := [(6, .int (x3_2 + (1 : Int32))), (4, .long (t_cells_3 (((stI (x3_2.toNatClampNeg)) + x3_2).toNatClampNeg))), (0, .ref q_t), (1, .long x1_1), (3, .int x3_2)]) hx hb dX2_determinant_40 hl (by decide) rfl (fun ls hl => ?_)
          have hL_42 : ∀ (n_42 : Nat) (x6_10 : Int32) (t_cells_11 : (Nat → Int64)) (H : Heap) (locs : List Loc) (ls : Array Slot), wl (wbX2_determinant_42 t_size x1_1 x3_2 t_cells_3 (wl (wbX2_determinant_4 t_size k) n_4)) n_42 (x6_10, t_cells_11) → va_P D vwCl ([(q_t, .inr (2, [.ref q_t_cells, .ref q_t_swept, .int t_size, .int t_rank, .long t_lower])), (q_t_cells, .inl (cJ, 15, .inr (.inl t_cells_11)))]) H → va_D A ([(q_t, .inr (2, [.ref q_t_cells, .ref q_t_swept, .int t_size, .int t_rank, .long t_lower])), (q_t_cells, .inl (cJ, 15, .inr (.inl t_cells_11)))]) → va_S A s.heap H locs → lv_has ls 11 [(0, .ref q_t), (1, .long x1_1), (3, .int x3_2), (4, .long (t_cells_3 (((stI (x3_2.toNatClampNeg)) + x3_2).toNatClampNeg))), (6, .int x6_10)] → W p l e rmX2_determinant s m args below meth c H locs 0 0 Q (F0 m 42 ls []) := by
            intro n_42
            induction n_42 with
            | zero => intro x6_10 t_cells_11 H locs ls h; exact h.elim
            | succ n_42 ih_42 =>
              intro x6_10 t_cells_11 H locs ls h hP hD hS hl
              rw [wl, wbX2_determinant_42] at h
              refine lv_iload hx hb dX2_determinant_42 (lv_at hl 4 rfl) ?_
              refine lv_aload_n hx hb dX2_determinant_44 rfl (lv_at hl 0 rfl) ?_
              refine va_get (v := .int t_size) hx hb hts iX2 hown hK hP 0 rfl rfl 2 (by decide) (hts _ mX2_determinant_1) (fun _ h9 => h9) rfl dX2_determinant_45 ?_
              obtain ⟨hp_12, hn_12⟩ := h
              refine lv_icmp_ge (tgt := 137) hx hb dX2_determinant_48 (by decide) (fun hc => ?_) (fun hc => ?_)
              · have h := hp_12 hc
                refine lv_lload hx hb dX2_determinant_137 (lv_at hl 3 rfl) ?_
                refine lv_lstore_n (lv' := [(1, .long (t_cells_3 (((stI (x3_2.toNatClampNeg)) + x3_2).toNatClampNeg))), (0, .ref q_t), (3, .int x3_2), (4, .long (t_cells_3 (((stI (x3_2.toNatClampNeg)) + x3_2).toNatClampNeg))), (6, .int x6_10)]) hx hb dX2_determinant_139 rfl hl (by decide) rfl (fun ls hl => ?_)
                refine lv_iinc (v := x3_2 + (1 : Int32)) (lv' := [(3, .int (x3_2 + (1 : Int32))), (1, .long (t_cells_3 (((stI (x3_2.toNatClampNeg)) + x3_2).toNatClampNeg))), (0, .ref q_t), (4, .long (t_cells_3 (((stI (x3_2.toNatClampNeg)) + x3_2).toNatClampNeg))), (6, .int x6_10)]) hx hb dX2_determinant_140 hl (k := 2) rfl rfl (by decide) rfl (fun ls hl => ?_)
                refine lv_goto (tgt := 4) hx hb dX2_determinant_143 (by decide) ?_
                exact ih_4 (t_cells_3 (((stI (x3_2.toNatClampNeg)) + x3_2).toNatClampNeg)) (x3_2 + (1 : Int32)) t_cells_11 _ _ _ h hP hD hS (lv_sub hl [2, 1, 0] rfl)
              · have h := hn_12 hc
                refine lv_aload_n hx hb dX2_determinant_51 rfl (lv_at hl 0 rfl) ?_
                refine va_get (v := .ref q_t_cells) hx hb hts iX2 hown hK hP 0 rfl rfl 0 (by decide) (hts _ mX2_determinant_2) (fun _ h9 => h9) rfl dX2_determinant_52 ?_
                refine va_gets hx hb hT.1 hS hown (hts _ mX2_determinant_3) (fun _ h9 => h9) dX2_determinant_55 ?_
                refine lv_iload hx hb dX2_determinant_58 (lv_at hl 4 rfl) ?_
                obtain ⟨hi_13, h⟩ := h
                refine vs_ald hx hb hT hS hi_13 rfl dX2_determinant_60 ?_
                refine lv_iload_n hx hb dX2_determinant_61 rfl (lv_at hl 2 rfl) ?_
                refine lv_iadd hx hb dX2_determinant_62 ?_
                obtain ⟨hi_14, h⟩ := h
                refine vl_ald hx hb hK hP 1 2 rfl rfl hi_14 rfl dX2_determinant_63 ?_
                refine lv_lstore (lv' := [(7, .long (t_cells_11 (((stI (x6_10.toNatClampNeg)) + x3_2).toNatClampNeg))), (0, .ref q_t), (1, .long x1_1), (3, .int x3_2), (4, .long (t_cells_3 (((stI (x3_2.toNatClampNeg)) + x3_2).toNatClampNeg))), (6, .int x6_10)]) hx hb dX2_determinant_64 hl (by decide) rfl (fun ls hl => ?_)
                refine lv_iload_n hx hb dX2_determinant_66 rfl (lv_at hl 3 rfl) ?_
                refine lv_iconst (v := 1) hx hb dX2_determinant_67 (by decide) ?_
                refine lv_iadd hx hb dX2_determinant_68 ?_
                refine lv_istore (lv' := [(9, .int (x3_2 + (1 : Int32))), (7, .long (t_cells_11 (((stI (x6_10.toNatClampNeg)) + x3_2).toNatClampNeg))), (0, .ref q_t), (1, .long x1_1), (3, .int x3_2), (4, .long (t_cells_3 (((stI (x3_2.toNatClampNeg)) + x3_2).toNatClampNeg))), (6, .int x6_10)]) hx hb dX2_determinant_69 hl (by decide) rfl (fun ls hl => ?_)
                have hL_71 : ∀ (n_71 : Nat) (x9_15 : Int32) (t_cells_16 : (Nat → Int64)) (H : Heap) (locs : List Loc) (ls : Array Slot), wl (wbX2_determinant_71 x1_1 x3_2 t_cells_3 x6_10 t_cells_11 (wl (wbX2_determinant_42 t_size x1_1 x3_2 t_cells_3 (wl (wbX2_determinant_4 t_size k) n_4)) n_42)) n_71 (x9_15, t_cells_16) → va_P D vwCl ([(q_t, .inr (2, [.ref q_t_cells, .ref q_t_swept, .int t_size, .int t_rank, .long t_lower])), (q_t_cells, .inl (cJ, 15, .inr (.inl t_cells_16)))]) H → va_D A ([(q_t, .inr (2, [.ref q_t_cells, .ref q_t_swept, .int t_size, .int t_rank, .long t_lower])), (q_t_cells, .inl (cJ, 15, .inr (.inl t_cells_16)))]) → va_S A s.heap H locs → lv_has ls 11 [(0, .ref q_t), (1, .long x1_1), (3, .int x3_2), (4, .long (t_cells_3 (((stI (x3_2.toNatClampNeg)) + x3_2).toNatClampNeg))), (6, .int x6_10), (7, .long (t_cells_11 (((stI (x6_10.toNatClampNeg)) + x3_2).toNatClampNeg))), (9, .int x9_15)] → W p l e rmX2_determinant s m args below meth c H locs 0 0 Q (F0 m 71 ls []) := by
                  intro n_71
                  induction n_71 with
                  | zero => intro x9_15 t_cells_16 H locs ls h; exact h.elim
                  | succ n_71 ih_71 =>
                    intro x9_15 t_cells_16 H locs ls h hP hD hS hl
                    rw [wl, wbX2_determinant_71] at h
                    refine lv_iload hx hb dX2_determinant_71 (lv_at hl 6 rfl) ?_
                    refine lv_iload hx hb dX2_determinant_73 (lv_at hl 4 rfl) ?_
                    obtain ⟨hp_17, hn_17⟩ := h
                    refine lv_icmp_gt (tgt := 131) hx hb dX2_determinant_75 (by decide) (fun hc => ?_) (fun hc => ?_)
                    · have h := hp_17 hc
                      refine lv_iinc (v := x6_10 + (1 : Int32)) (lv' := [(6, .int (x6_10 + (1 : Int32))), (0, .ref q_t), (1, .long x1_1), (3, .int x3_2), (4, .long (t_cells_3 (((stI (x3_2.toNatClampNeg)) + x3_2).toNatClampNeg))), (7, .long (t_cells_11 (((stI (x6_10.toNatClampNeg)) + x3_2).toNatClampNeg))), (9, .int x9_15)]) hx hb dX2_determinant_131 hl (k := 4) rfl rfl (by decide) rfl (fun ls hl => ?_)
                      refine lv_goto (tgt := 42) hx hb dX2_determinant_134 (by decide) ?_
                      exact ih_42 (x6_10 + (1 : Int32)) t_cells_16 _ _ _ h hP hD hS (lv_sub hl [1, 2, 3, 4, 0] rfl)
                    · have h := hn_17 hc
                      refine va_gets hx hb hT.1 hS hown (hts _ mX2_determinant_3) (fun _ h9 => h9) dX2_determinant_78 ?_
                      refine lv_iload hx hb dX2_determinant_81 (lv_at hl 4 rfl) ?_
                      obtain ⟨hi_18, h⟩ := h
                      refine vs_ald hx hb hT hS hi_18 rfl dX2_determinant_83 ?_
                      refine lv_iload hx hb dX2_determinant_84 (lv_at hl 6 rfl) ?_
                      refine lv_iadd hx hb dX2_determinant_86 ?_
                      refine lv_istore (lv' := [(10, .int ((stI (x6_10.toNatClampNeg)) + x9_15)), (0, .ref q_t), (1, .long x1_1), (3, .int x3_2), (4, .long (t_cells_3 (((stI (x3_2.toNatClampNeg)) + x3_2).toNatClampNeg))), (6, .int x6_10), (7, .long (t_cells_11 (((stI (x6_10.toNatClampNeg)) + x3_2).toNatClampNeg))), (9, .int x9_15)]) hx hb dX2_determinant_87 hl (by decide) rfl (fun ls hl => ?_)
                      refine lv_aload_n hx hb dX2_determinant_89 rfl (lv_at hl 1 rfl) ?_
                      refine va_get (v := .ref q_t_cells) hx hb hts iX2 hown hK hP 0 rfl rfl 0 (by decide) (hts _ mX2_determinant_2) (fun _ h9 => h9) rfl dX2_determinant_90 ?_
                      refine lv_iload hx hb dX2_determinant_93 (lv_at hl 0 rfl) ?_
                      refine lv_aload_n hx hb dX2_determinant_95 rfl (lv_at hl 1 rfl) ?_
                      refine va_get (v := .ref q_t_cells) hx hb hts iX2 hown hK hP 0 rfl rfl 0 (by decide) (hts _ mX2_determinant_2) (fun _ h9 => h9) rfl dX2_determinant_96 ?_
                      refine lv_iload hx hb dX2_determinant_99 (lv_at hl 0 rfl) ?_
                      obtain ⟨hi_19, h⟩ := h
                      refine vl_ald hx hb hK hP 1 2 rfl rfl hi_19 rfl dX2_determinant_101 ?_
                      refine lv_lload hx hb dX2_determinant_102 (lv_at hl 4 rfl) ?_
                      refine lv_lmul hx hb dX2_determinant_104 ?_
                      refine lv_lload hx hb dX2_determinant_105 (lv_at hl 6 rfl) ?_
                      refine lv_aload_n hx hb dX2_determinant_107 rfl (lv_at hl 1 rfl) ?_
                      refine va_get (v := .ref q_t_cells) hx hb hts iX2 hown hK hP 0 rfl rfl 0 (by decide) (hts _ mX2_determinant_2) (fun _ h9 => h9) rfl dX2_determinant_108 ?_
                      refine va_gets hx hb hT.1 hS hown (hts _ mX2_determinant_3) (fun _ h9 => h9) dX2_determinant_111 ?_
                      refine lv_iload hx hb dX2_determinant_114 (lv_at hl 7 rfl) ?_
                      obtain ⟨hi_20, h⟩ := h
                      refine vs_ald hx hb hT hS hi_20 rfl dX2_determinant_116 ?_
                      refine lv_iload_n hx hb dX2_determinant_117 rfl (lv_at hl 3 rfl) ?_
                      refine lv_iadd hx hb dX2_determinant_118 ?_
                      obtain ⟨hi_21, h⟩ := h
                      refine vl_ald hx hb hK hP 1 2 rfl rfl hi_21 rfl dX2_determinant_119 ?_
                      refine lv_lmul hx hb dX2_determinant_120 ?_
                      refine lv_lsub hx hb dX2_determinant_121 ?_
                      refine lv_lload_n hx hb dX2_determinant_122 rfl (lv_at hl 2 rfl) ?_
                      obtain ⟨hz_22, h⟩ := h
                      refine lv_ldiv hx hb dX2_determinant_123 hz_22 ?_
                      obtain ⟨hi_23, h⟩ := h
                      refine vl_ast (x := (((t_cells_16 (((stI (x6_10.toNatClampNeg)) + x9_15).toNatClampNeg)) * (t_cells_3 (((stI (x3_2.toNatClampNeg)) + x3_2).toNatClampNeg))) - ((t_cells_11 (((stI (x6_10.toNatClampNeg)) + x3_2).toNatClampNeg)) * (t_cells_16 (((stI (x9_15.toNatClampNeg)) + x3_2).toNatClampNeg)))) / x1_1) hx hb hK hP hD hS 1 2 rfl rfl hi_23 rfl dX2_determinant_124 (fun H locs hP hD hS => ?_)
                      have hP : va_P D vwCl ([(q_t, .inr (2, [.ref q_t_cells, .ref q_t_swept, .int t_size, .int t_rank, .long t_lower])), (q_t_cells, .inl (cJ, 15, .inr (.inl (vp_updL t_cells_16 (((stI (x6_10.toNatClampNeg)) + x9_15).toNatClampNeg) ((((t_cells_16 (((stI (x6_10.toNatClampNeg)) + x9_15).toNatClampNeg)) * (t_cells_3 (((stI (x3_2.toNatClampNeg)) + x3_2).toNatClampNeg))) - ((t_cells_11 (((stI (x6_10.toNatClampNeg)) + x3_2).toNatClampNeg)) * (t_cells_16 (((stI (x9_15.toNatClampNeg)) + x3_2).toNatClampNeg)))) / x1_1)))))]) H := hP
                      have hD : va_D A ([(q_t, .inr (2, [.ref q_t_cells, .ref q_t_swept, .int t_size, .int t_rank, .long t_lower])), (q_t_cells, .inl (cJ, 15, .inr (.inl (vp_updL t_cells_16 (((stI (x6_10.toNatClampNeg)) + x9_15).toNatClampNeg) ((((t_cells_16 (((stI (x6_10.toNatClampNeg)) + x9_15).toNatClampNeg)) * (t_cells_3 (((stI (x3_2.toNatClampNeg)) + x3_2).toNatClampNeg))) - ((t_cells_11 (((stI (x6_10.toNatClampNeg)) + x3_2).toNatClampNeg)) * (t_cells_16 (((stI (x9_15.toNatClampNeg)) + x3_2).toNatClampNeg)))) / x1_1)))))]) := hD
                      refine lv_iinc (v := x9_15 + (1 : Int32)) (lv' := [(9, .int (x9_15 + (1 : Int32))), (10, .int ((stI (x6_10.toNatClampNeg)) + x9_15)), (0, .ref q_t), (1, .long x1_1), (3, .int x3_2), (4, .long (t_cells_3 (((stI (x3_2.toNatClampNeg)) + x3_2).toNatClampNeg))), (6, .int x6_10), (7, .long (t_cells_11 (((stI (x6_10.toNatClampNeg)) + x3_2).toNatClampNeg)))]) hx hb dX2_determinant_125 hl (k := 7) rfl rfl (by decide) rfl (fun ls hl => ?_)
                      refine lv_goto (tgt := 71) hx hb dX2_determinant_128 (by decide) ?_
                      exact ih_71 (x9_15 + (1 : Int32)) (vp_updL t_cells_16 (((stI (x6_10.toNatClampNeg)) + x9_15).toNatClampNeg) ((((t_cells_16 (((stI (x6_10.toNatClampNeg)) + x9_15).toNatClampNeg)) * (t_cells_3 (((stI (x3_2.toNatClampNeg)) + x3_2).toNatClampNeg))) - ((t_cells_11 (((stI (x6_10.toNatClampNeg)) + x3_2).toNatClampNeg)) * (t_cells_16 (((stI (x9_15.toNatClampNeg)) + x3_2).toNatClampNeg)))) / x1_1)) _ _ _ h hP hD hS (lv_sub hl [2, 3, 4, 5, 6, 7, 0] rfl)
                obtain ⟨n_71, h⟩ := h
                exact hL_71 n_71 (x3_2 + (1 : Int32)) t_cells_11 _ _ _ h hP hD hS (lv_sub hl [2, 3, 4, 5, 6, 1, 0] rfl)
          obtain ⟨n_42, h⟩ := h
          exact hL_42 n_42 (x3_2 + (1 : Int32)) t_cells_3 _ _ _ h hP hD hS (lv_sub hl [2, 3, 4, 1, 0] rfl)
        · have h := hn_9 (fun q => hc ((lg_cmp_gt (t_cells_3 (((stI (x3_2.toNatClampNeg)) + x3_2).toNatClampNeg)) (0 : Int64)).mpr q))
          refine lv_lconst (v := 0) hx hb dX2_determinant_35 (by decide) ?_
          subst hQ
          exact vr_L (v := (0 : Int64)) t_cells_3 hx hb hr hlk hP hD hS [0, 1] rfl rfl h dX2_determinant_36
  obtain ⟨n_4, h⟩ := h
  exact hL_4 n_4 (1 : Int64) (0 : Int32) t_cells _ _ _ h hP hD hS (lv_sub hl [2, 1, 0] rfl)
theorem mX2_sweepLine_1 : Cond.fieldLink RX2 23 "TrialDesk$Grid" "lower" "J" ∈ wsX2_sweepLine := List.mem_of_getElem? (i := 1) (by decide +kernel)
theorem mX2_sweepLine_2 : Cond.fieldLink RX2 19 "TrialDesk$Grid" "size" "I" ∈ wsX2_sweepLine := List.mem_of_getElem? (i := 2) (by decide +kernel)
theorem mX2_sweepLine_3 : Cond.fieldLink RX2 9 "TrialDesk$Grid" "cells" "[J" ∈ wsX2_sweepLine := List.mem_of_getElem? (i := 3) (by decide +kernel)
theorem mX2_sweepLine_4 : Cond.fieldLink RX2 27 "TrialDesk$Grid" "START" "[I" ∈ wsX2_sweepLine := List.mem_of_getElem? (i := 4) (by decide +kernel)
abbrev rmX2_sweepLine : Room := { frames := 1, cells := 0, slots := 0, locals := 21 }
set_option maxHeartbeats 4000000 in
set_option maxRecDepth 100000 in
theorem ctX2_sweepLine (l : Launch) (D : va_G) (cB cI cJ cZ cR : ClassId) (tz : Nat) (q_t : Nat) (q_t_cells : Nat) (q_t_swept : Nat) (t_size : Int32) (t_rank : Int32) (t_lower : Int64) (t_cells : (Nat → Int64)) (a1 : Int32) (a2 : Int64) (k : (Nat → Int64) → Prop) (h : wpX2_sweepLine t_cells t_size t_lower a1 a2 k) : MV l yX2_sweepLine wsX2_sweepLine rmX2_sweepLine D (vTy cB cI cJ cZ cR) tz [.ref q_t, .int a1, .long a2] ([(q_t, .inr (2, [.ref q_t_cells, .ref q_t_swept, .int t_size, .int t_rank, .long t_lower])), (q_t_cells, .inl (cJ, 15, .inr (.inl t_cells)))]) (fun (u : (Nat → Int64)) => k u) (fun (u : (Nat → Int64)) => [(q_t, .inr (2, [.ref q_t_cells, .ref q_t_swept, .int t_size, .int t_rank, .long t_lower])), (q_t_cells, .inl (cJ, 15, .inr (.inl u)))]) 0 0 := by
  refine MV.of (cc := cX2_sweepLine) (maxL := 9) (ret := none) (by decide) rfl (Nat.le_of_ble_eq_true rfl) ?_
  intro p e s m args below meth c A ls Q hQ E
  obtain ⟨hx, hb, hml, hr, hts, hown, hlk, hin, hP, hK, hD, hS, hA, hT, hl⟩ := E
  have hown : s.vm.findClass RX2 = some m.cls := hown
  have hl : lv_has ls 9 [(0, .ref q_t), (1, .int a1), (2, .long a2)] := hl
  have iX2 : ∀ w ∈ wsX20, w ∈ wsX2_sweepLine := fun _ h => List.mem_cons_of_mem _ (List.mem_append_right _ h)
  unfold wpX2_sweepLine at h
  refine lv_aload_n hx hb dX2_sweepLine_0 rfl (lv_at hl 0 rfl) ?_
  refine va_get (v := .long t_lower) hx hb hts iX2 hown hK hP 0 rfl rfl 4 (by decide) (hts _ mX2_sweepLine_1) (fun _ h9 => h9) rfl dX2_sweepLine_1 ?_
  refine lv_lconst (v := 1) hx hb dX2_sweepLine_4 (by decide) ?_
  refine W.lcmp hx hb dX2_sweepLine_5 ?_
  obtain ⟨hp_1, hn_1⟩ := h
  refine lv_if_ge (tgt := 10) hx hb dX2_sweepLine_6 (by decide) (fun hc => ?_) (fun hc => ?_)
  · have h := hp_1 ((lg_cmp_ge t_lower (1 : Int64)).mp hc)
    refine lv_iconst (v := 0) hx hb dX2_sweepLine_10 (by decide) ?_
    refine lv_istore (lv' := [(4, .int (0 : Int32)), (0, .ref q_t), (1, .int a1), (2, .long a2)]) hx hb dX2_sweepLine_11 hl (by decide) rfl (fun ls hl => ?_)
    have hL_13 : ∀ (n_13 : Nat) (x4_2 : Int32) (t_cells_3 : (Nat → Int64)) (H : Heap) (locs : List Loc) (ls : Array Slot), wl (wbX2_sweepLine_13 t_size t_lower a1 a2 k) n_13 (x4_2, t_cells_3) → va_P D vwCl ([(q_t, .inr (2, [.ref q_t_cells, .ref q_t_swept, .int t_size, .int t_rank, .long t_lower])), (q_t_cells, .inl (cJ, 15, .inr (.inl t_cells_3)))]) H → va_D A ([(q_t, .inr (2, [.ref q_t_cells, .ref q_t_swept, .int t_size, .int t_rank, .long t_lower])), (q_t_cells, .inl (cJ, 15, .inr (.inl t_cells_3)))]) → va_S A s.heap H locs → lv_has ls 9 [(0, .ref q_t), (1, .int a1), (2, .long a2), (4, .int x4_2)] → W p l e rmX2_sweepLine s m args below meth c H locs 0 0 Q (F0 m 13 ls []) := by
      intro n_13
      induction n_13 with
      | zero => intro x4_2 t_cells_3 H locs ls h; exact h.elim
      | succ n_13 ih_13 =>
        intro x4_2 t_cells_3 H locs ls h hP hD hS hl
        rw [wl, wbX2_sweepLine_13] at h
        refine lv_iload hx hb dX2_sweepLine_13 (lv_at hl 3 rfl) ?_
        refine lv_aload_n hx hb dX2_sweepLine_15 rfl (lv_at hl 0 rfl) ?_
        refine va_get (v := .int t_size) hx hb hts iX2 hown hK hP 0 rfl rfl 2 (by decide) (hts _ mX2_sweepLine_2) (fun _ h9 => h9) rfl dX2_sweepLine_16 ?_
        obtain ⟨hp_4, hn_4⟩ := h
        refine lv_icmp_ge (tgt := 116) hx hb dX2_sweepLine_19 (by decide) (fun hc => ?_) (fun hc => ?_)
        · have h := hp_4 hc
          refine lv_aload_n hx hb dX2_sweepLine_116 rfl (lv_at hl 0 rfl) ?_
          refine va_get (v := .ref q_t_cells) hx hb hts iX2 hown hK hP 0 rfl rfl 0 (by decide) (hts _ mX2_sweepLine_3) (fun _ h9 => h9) rfl dX2_sweepLine_117 ?_
          refine va_gets hx hb hT.1 hS hown (hts _ mX2_sweepLine_4) (fun _ h9 => h9) dX2_sweepLine_120 ?_
          refine lv_iload_n hx hb dX2_sweepLine_123 rfl (lv_at hl 1 rfl) ?_
          obtain ⟨hi_5, h⟩ := h
          refine vs_ald hx hb hT hS hi_5 rfl dX2_sweepLine_124 ?_
          refine lv_iload_n hx hb dX2_sweepLine_125 rfl (lv_at hl 1 rfl) ?_
          refine lv_iadd hx hb dX2_sweepLine_126 ?_
          refine lv_aload_n hx hb dX2_sweepLine_127 rfl (lv_at hl 0 rfl) ?_
          refine va_get (v := .long t_lower) hx hb hts iX2 hown hK hP 0 rfl rfl 4 (by decide) (hts _ mX2_sweepLine_1) (fun _ h9 => h9) rfl dX2_sweepLine_128 ?_
          refine lv_lneg hx hb dX2_sweepLine_131 ?_
          obtain ⟨hi_6, h⟩ := h
          refine vl_ast (x := -t_lower) hx hb hK hP hD hS 1 2 rfl rfl hi_6 rfl dX2_sweepLine_132 (fun H locs hP hD hS => ?_)
          have hP : va_P D vwCl ([(q_t, .inr (2, [.ref q_t_cells, .ref q_t_swept, .int t_size, .int t_rank, .long t_lower])), (q_t_cells, .inl (cJ, 15, .inr (.inl (vp_updL t_cells_3 (((stI (a1.toNatClampNeg)) + a1).toNatClampNeg) (-t_lower)))))]) H := hP
          have hD : va_D A ([(q_t, .inr (2, [.ref q_t_cells, .ref q_t_swept, .int t_size, .int t_rank, .long t_lower])), (q_t_cells, .inl (cJ, 15, .inr (.inl (vp_updL t_cells_3 (((stI (a1.toNatClampNeg)) + a1).toNatClampNeg) (-t_lower)))))]) := hD
          subst hQ
          exact vr_V (vp_updL t_cells_3 (((stI (a1.toNatClampNeg)) + a1).toNatClampNeg) (-t_lower)) hx hb hr hlk hP hD hS [0, 1] rfl rfl h dX2_sweepLine_133
        · have h := hn_4 hc
          refine lv_aload_n hx hb dX2_sweepLine_22 rfl (lv_at hl 0 rfl) ?_
          refine va_get (v := .ref q_t_cells) hx hb hts iX2 hown hK hP 0 rfl rfl 0 (by decide) (hts _ mX2_sweepLine_3) (fun _ h9 => h9) rfl dX2_sweepLine_23 ?_
          refine lv_iload hx hb dX2_sweepLine_26 (lv_at hl 3 rfl) ?_
          refine lv_iload_n hx hb dX2_sweepLine_28 rfl (lv_at hl 1 rfl) ?_
          refine vc_SI (As := [.int x4_2, .int a1]) (rest := [.ref q_t_cells]) (wr := [(q_t, .inr (2, [.ref q_t_cells, .ref q_t_swept, .int t_size, .int t_rank, .long t_lower])), (q_t_cells, .inl (cJ, 15, .inr (.inl t_cells_3)))]) ⟨hx, hb, hml, hown, hts⟩ (ctX2_cellAt l D cB cI cJ cZ cR tz x4_2 a1 _ h) (va_cwS 2 hts gX2_sweepLine_X2_cellAt rfl rfl rfl hdX2_cellAt.2 ⟨Nat.le_of_ble_eq_true rfl, Nat.le_of_ble_eq_true rfl⟩) hK hP hD hS hA hT [] [0, 1] rfl rfl rfl rfl (by decide) rfl rfl hl.1 (Nat.le_of_ble_eq_true rfl) dX2_sweepLine_29 ⟨Nat.le_of_ble_eq_true rfl, Nat.le_of_ble_eq_true rfl⟩ (fun r_7 u9 H locs h hP hD hS => ?_)
          have hP : va_P D vwCl ([(q_t, .inr (2, [.ref q_t_cells, .ref q_t_swept, .int t_size, .int t_rank, .long t_lower])), (q_t_cells, .inl (cJ, 15, .inr (.inl t_cells_3)))]) H := hP.sub [0, 1] rfl
          have hD : va_D A ([(q_t, .inr (2, [.ref q_t_cells, .ref q_t_swept, .int t_size, .int t_rank, .long t_lower])), (q_t_cells, .inl (cJ, 15, .inr (.inl t_cells_3)))]) := hD.sub [0, 1] rfl rfl
          try dsimp only at h
          obtain ⟨hi_8, h⟩ := h
          refine vl_ald hx hb hK hP 1 2 rfl rfl hi_8 rfl dX2_sweepLine_32 ?_
          refine lv_lstore (lv' := [(5, .long (t_cells_3 (r_7.toNatClampNeg))), (0, .ref q_t), (1, .int a1), (2, .long a2), (4, .int x4_2)]) hx hb dX2_sweepLine_33 hl (by decide) rfl (fun ls hl => ?_)
          refine lv_iconst (v := 0) hx hb dX2_sweepLine_35 (by decide) ?_
          refine lv_istore (lv' := [(7, .int (0 : Int32)), (5, .long (t_cells_3 (r_7.toNatClampNeg))), (0, .ref q_t), (1, .int a1), (2, .long a2), (4, .int x4_2)]) hx hb dX2_sweepLine_36 hl (by decide) rfl (fun ls hl => ?_)
          have hL_38 : ∀ (n_38 : Nat) (x7_9 : Int32) (t_cells_10 : (Nat → Int64)) (H : Heap) (locs : List Loc) (ls : Array Slot), wl (wbX2_sweepLine_38 t_lower a1 a2 x4_2 t_cells_3 (wl (wbX2_sweepLine_13 t_size t_lower a1 a2 k) n_13) r_7) n_38 (x7_9, t_cells_10) → va_P D vwCl ([(q_t, .inr (2, [.ref q_t_cells, .ref q_t_swept, .int t_size, .int t_rank, .long t_lower])), (q_t_cells, .inl (cJ, 15, .inr (.inl t_cells_10)))]) H → va_D A ([(q_t, .inr (2, [.ref q_t_cells, .ref q_t_swept, .int t_size, .int t_rank, .long t_lower])), (q_t_cells, .inl (cJ, 15, .inr (.inl t_cells_10)))]) → va_S A s.heap H locs → lv_has ls 9 [(0, .ref q_t), (1, .int a1), (2, .long a2), (4, .int x4_2), (5, .long (t_cells_3 (r_7.toNatClampNeg))), (7, .int x7_9)] → W p l e rmX2_sweepLine s m args below meth c H locs 0 0 Q (F0 m 38 ls []) := by
            intro n_38
            induction n_38 with
            | zero => intro x7_9 t_cells_10 H locs ls h; exact h.elim
            | succ n_38 ih_38 =>
              intro x7_9 t_cells_10 H locs ls h hP hD hS hl
              rw [wl, wbX2_sweepLine_38] at h
              refine lv_iload hx hb dX2_sweepLine_38 (lv_at hl 5 rfl) ?_
              refine lv_iload hx hb dX2_sweepLine_40 (lv_at hl 3 rfl) ?_
              obtain ⟨hp_11, hn_11⟩ := h
              refine lv_icmp_gt (tgt := 110) hx hb dX2_sweepLine_42 (by decide) (fun hc => ?_) (fun hc => ?_)
              · have h := hp_11 hc
                refine lv_iinc (v := x4_2 + (1 : Int32)) (lv' := [(4, .int (x4_2 + (1 : Int32))), (0, .ref q_t), (1, .int a1), (2, .long a2), (5, .long (t_cells_3 (r_7.toNatClampNeg))), (7, .int x7_9)]) hx hb dX2_sweepLine_110 hl (k := 3) rfl rfl (by decide) rfl (fun ls hl => ?_)
                refine lv_goto (tgt := 13) hx hb dX2_sweepLine_113 (by decide) ?_
                exact ih_13 (x4_2 + (1 : Int32)) t_cells_10 _ _ _ h hP hD hS (lv_sub hl [1, 2, 3, 0] rfl)
              · have h := hn_11 hc
                refine lv_iload hx hb dX2_sweepLine_45 (lv_at hl 3 rfl) ?_
                refine lv_iload_n hx hb dX2_sweepLine_47 rfl (lv_at hl 1 rfl) ?_
                obtain ⟨hp_12, hn_12⟩ := h
                refine lv_icmp_eq (tgt := 104) hx hb dX2_sweepLine_48 (by decide) (fun hc => ?_) (fun hc => ?_)
                · have h := hp_12 hc
                  refine lv_iinc (v := x7_9 + (1 : Int32)) (lv' := [(7, .int (x7_9 + (1 : Int32))), (0, .ref q_t), (1, .int a1), (2, .long a2), (4, .int x4_2), (5, .long (t_cells_3 (r_7.toNatClampNeg)))]) hx hb dX2_sweepLine_104 hl (k := 5) rfl rfl (by decide) rfl (fun ls hl => ?_)
                  refine lv_goto (tgt := 38) hx hb dX2_sweepLine_107 (by decide) ?_
                  exact ih_38 (x7_9 + (1 : Int32)) t_cells_10 _ _ _ h hP hD hS (lv_sub hl [1, 2, 3, 4, 5, 0] rfl)
                · have h := hn_12 hc
                  refine lv_iload hx hb dX2_sweepLine_51 (lv_at hl 5 rfl) ?_
                  refine lv_iload_n hx hb dX2_sweepLine_53 rfl (lv_at hl 1 rfl) ?_
                  obtain ⟨hp_13, hn_13⟩ := h
                  refine lv_icmp_eq (tgt := 104) hx hb dX2_sweepLine_54 (by decide) (fun hc => ?_) (fun hc => ?_)
                  · have h := hp_13 hc
                    refine lv_iinc (v := x7_9 + (1 : Int32)) (lv' := [(7, .int (x7_9 + (1 : Int32))), (0, .ref q_t), (1, .int a1), (2, .long a2), (4, .int x4_2), (5, .long (t_cells_3 (r_7.toNatClampNeg)))]) hx hb dX2_sweepLine_104 hl (k := 5) rfl rfl (by decide) rfl (fun ls hl => ?_)
                    refine lv_goto (tgt := 38) hx hb dX2_sweepLine_107 (by decide) ?_
                    exact ih_38 (x7_9 + (1 : Int32)) t_cells_10 _ _ _ h hP hD hS (lv_sub hl [1, 2, 3, 4, 5, 0] rfl)
                  · have h := hn_13 hc
                    refine va_gets hx hb hT.1 hS hown (hts _ mX2_sweepLine_4) (fun _ h9 => h9) dX2_sweepLine_57 ?_
                    refine lv_iload hx hb dX2_sweepLine_60 (lv_at hl 3 rfl) ?_
                    obtain ⟨hi_14, h⟩ := h
                    refine vs_ald hx hb hT hS hi_14 rfl dX2_sweepLine_62 ?_
                    refine lv_iload hx hb dX2_sweepLine_63 (lv_at hl 5 rfl) ?_
                    refine lv_iadd hx hb dX2_sweepLine_65 ?_
                    refine lv_istore (lv' := [(8, .int ((stI (x4_2.toNatClampNeg)) + x7_9)), (0, .ref q_t), (1, .int a1), (2, .long a2), (4, .int x4_2), (5, .long (t_cells_3 (r_7.toNatClampNeg))), (7, .int x7_9)]) hx hb dX2_sweepLine_66 hl (by decide) rfl (fun ls hl => ?_)
                    refine lv_aload_n hx hb dX2_sweepLine_68 rfl (lv_at hl 1 rfl) ?_
                    refine va_get (v := .ref q_t_cells) hx hb hts iX2 hown hK hP 0 rfl rfl 0 (by decide) (hts _ mX2_sweepLine_3) (fun _ h9 => h9) rfl dX2_sweepLine_69 ?_
                    refine lv_iload hx hb dX2_sweepLine_72 (lv_at hl 0 rfl) ?_
                    refine lv_aload_n hx hb dX2_sweepLine_74 rfl (lv_at hl 1 rfl) ?_
                    refine va_get (v := .ref q_t_cells) hx hb hts iX2 hown hK hP 0 rfl rfl 0 (by decide) (hts _ mX2_sweepLine_3) (fun _ h9 => h9) rfl dX2_sweepLine_75 ?_
                    refine lv_iload hx hb dX2_sweepLine_78 (lv_at hl 0 rfl) ?_
                    obtain ⟨hi_15, h⟩ := h
                    refine vl_ald hx hb hK hP 1 2 rfl rfl hi_15 rfl dX2_sweepLine_80 ?_
                    refine lv_lload_n hx hb dX2_sweepLine_81 rfl (lv_at hl 3 rfl) ?_
                    refine lv_lmul hx hb dX2_sweepLine_82 ?_
                    refine lv_lload hx hb dX2_sweepLine_83 (lv_at hl 5 rfl) ?_
                    refine lv_aload_n hx hb dX2_sweepLine_85 rfl (lv_at hl 1 rfl) ?_
                    refine va_get (v := .ref q_t_cells) hx hb hts iX2 hown hK hP 0 rfl rfl 0 (by decide) (hts _ mX2_sweepLine_3) (fun _ h9 => h9) rfl dX2_sweepLine_86 ?_
                    refine lv_iload hx hb dX2_sweepLine_89 (lv_at hl 6 rfl) ?_
                    refine lv_iload_n hx hb dX2_sweepLine_91 rfl (lv_at hl 2 rfl) ?_
                    refine vc_SI (As := [.int x7_9, .int a1]) (rest := [.ref q_t_cells, .long (t_cells_3 (r_7.toNatClampNeg)), .long ((t_cells_10 (((stI (x4_2.toNatClampNeg)) + x7_9).toNatClampNeg)) * a2), .int ((stI (x4_2.toNatClampNeg)) + x7_9), .ref q_t_cells]) (wr := [(q_t, .inr (2, [.ref q_t_cells, .ref q_t_swept, .int t_size, .int t_rank, .long t_lower])), (q_t_cells, .inl (cJ, 15, .inr (.inl t_cells_10)))]) ⟨hx, hb, hml, hown, hts⟩ (ctX2_cellAt l D cB cI cJ cZ cR tz x7_9 a1 _ h) (va_cwS 2 hts gX2_sweepLine_X2_cellAt rfl rfl rfl hdX2_cellAt.2 ⟨Nat.le_of_ble_eq_true rfl, Nat.le_of_ble_eq_true rfl⟩) hK hP hD hS hA hT [] [0, 1] rfl rfl rfl rfl (by decide) rfl rfl hl.1 (Nat.le_of_ble_eq_true rfl) dX2_sweepLine_92 ⟨Nat.le_of_ble_eq_true rfl, Nat.le_of_ble_eq_true rfl⟩ (fun r_16 u9 H locs h hP hD hS => ?_)
                    have hP : va_P D vwCl ([(q_t, .inr (2, [.ref q_t_cells, .ref q_t_swept, .int t_size, .int t_rank, .long t_lower])), (q_t_cells, .inl (cJ, 15, .inr (.inl t_cells_10)))]) H := hP.sub [0, 1] rfl
                    have hD : va_D A ([(q_t, .inr (2, [.ref q_t_cells, .ref q_t_swept, .int t_size, .int t_rank, .long t_lower])), (q_t_cells, .inl (cJ, 15, .inr (.inl t_cells_10)))]) := hD.sub [0, 1] rfl rfl
                    try dsimp only at h
                    obtain ⟨hi_17, h⟩ := h
                    refine vl_ald hx hb hK hP 1 2 rfl rfl hi_17 rfl dX2_sweepLine_95 ?_
                    refine lv_lmul hx hb dX2_sweepLine_96 ?_
                    refine lv_lsub hx hb dX2_sweepLine_97 ?_
                    refine lv_aload_n hx hb dX2_sweepLine_98 rfl (lv_at hl 1 rfl) ?_
                    refine va_get (v := .long t_lower) hx hb hts iX2 hown hK hP 0 rfl rfl 4 (by decide) (hts _ mX2_sweepLine_1) (fun _ h9 => h9) rfl dX2_sweepLine_99 ?_
                    obtain ⟨hz_18, h⟩ := h
                    refine lv_ldiv hx hb dX2_sweepLine_102 hz_18 ?_
                    obtain ⟨hi_19, h⟩ := h
                    refine vl_ast (x := (((t_cells_10 (((stI (x4_2.toNatClampNeg)) + x7_9).toNatClampNeg)) * a2) - ((t_cells_3 (r_7.toNatClampNeg)) * (t_cells_10 (r_16.toNatClampNeg)))) / t_lower) hx hb hK hP hD hS 1 2 rfl rfl hi_19 rfl dX2_sweepLine_103 (fun H locs hP hD hS => ?_)
                    have hP : va_P D vwCl ([(q_t, .inr (2, [.ref q_t_cells, .ref q_t_swept, .int t_size, .int t_rank, .long t_lower])), (q_t_cells, .inl (cJ, 15, .inr (.inl (vp_updL t_cells_10 (((stI (x4_2.toNatClampNeg)) + x7_9).toNatClampNeg) ((((t_cells_10 (((stI (x4_2.toNatClampNeg)) + x7_9).toNatClampNeg)) * a2) - ((t_cells_3 (r_7.toNatClampNeg)) * (t_cells_10 (r_16.toNatClampNeg)))) / t_lower)))))]) H := hP
                    have hD : va_D A ([(q_t, .inr (2, [.ref q_t_cells, .ref q_t_swept, .int t_size, .int t_rank, .long t_lower])), (q_t_cells, .inl (cJ, 15, .inr (.inl (vp_updL t_cells_10 (((stI (x4_2.toNatClampNeg)) + x7_9).toNatClampNeg) ((((t_cells_10 (((stI (x4_2.toNatClampNeg)) + x7_9).toNatClampNeg)) * a2) - ((t_cells_3 (r_7.toNatClampNeg)) * (t_cells_10 (r_16.toNatClampNeg)))) / t_lower)))))]) := hD
                    refine lv_iinc (v := x7_9 + (1 : Int32)) (lv' := [(7, .int (x7_9 + (1 : Int32))), (8, .int ((stI (x4_2.toNatClampNeg)) + x7_9)), (0, .ref q_t), (1, .int a1), (2, .long a2), (4, .int x4_2), (5, .long (t_cells_3 (r_7.toNatClampNeg)))]) hx hb dX2_sweepLine_104 hl (k := 6) rfl rfl (by decide) rfl (fun ls hl => ?_)
                    refine lv_goto (tgt := 38) hx hb dX2_sweepLine_107 (by decide) ?_
                    exact ih_38 (x7_9 + (1 : Int32)) (vp_updL t_cells_10 (((stI (x4_2.toNatClampNeg)) + x7_9).toNatClampNeg) ((((t_cells_10 (((stI (x4_2.toNatClampNeg)) + x7_9).toNatClampNeg)) * a2) - ((t_cells_3 (r_7.toNatClampNeg)) * (t_cells_10 (r_16.toNatClampNeg)))) / t_lower)) _ _ _ h hP hD hS (lv_sub hl [2, 3, 4, 5, 6, 0] rfl)
          obtain ⟨n_38, h⟩ := h
          exact hL_38 n_38 (0 : Int32) t_cells_3 _ _ _ h hP hD hS (lv_sub hl [2, 3, 4, 5, 1, 0] rfl)
    obtain ⟨n_13, h⟩ := h
    exact hL_13 n_13 (0 : Int32) t_cells _ _ _ h hP hD hS (lv_sub hl [1, 2, 3, 0] rfl)
  · have h := hn_1 (fun q => hc ((lg_cmp_ge t_lower (1 : Int64)).mpr q))
    subst hQ
    exact vr_V t_cells hx hb hr hlk hP hD hS [0, 1] rfl rfl h dX2_sweepLine_9
theorem mX2_sweep_1 : Cond.fieldLink RX2 23 "TrialDesk$Grid" "lower" "J" ∈ wsX2_sweep := List.mem_of_getElem? (i := 1) (by decide +kernel)
theorem mX2_sweep_2 : Cond.fieldLink RX2 64 "TrialDesk$Grid" "rank" "I" ∈ wsX2_sweep := List.mem_of_getElem? (i := 2) (by decide +kernel)
theorem mX2_sweep_3 : Cond.fieldLink RX2 19 "TrialDesk$Grid" "size" "I" ∈ wsX2_sweep := List.mem_of_getElem? (i := 3) (by decide +kernel)
theorem mX2_sweep_4 : Cond.fieldLink RX2 9 "TrialDesk$Grid" "cells" "[J" ∈ wsX2_sweep := List.mem_of_getElem? (i := 4) (by decide +kernel)
theorem mX2_sweep_5 : Cond.fieldLink RX2 27 "TrialDesk$Grid" "START" "[I" ∈ wsX2_sweep := List.mem_of_getElem? (i := 5) (by decide +kernel)
theorem mX2_sweep_6 : Cond.fieldLink RX2 15 "TrialDesk$Grid" "swept" "[Z" ∈ wsX2_sweep := List.mem_of_getElem? (i := 6) (by decide +kernel)
abbrev rmX2_sweep : Room := { frames := 2, cells := 0, slots := 0, locals := 49 }
set_option maxHeartbeats 4000000 in
set_option maxRecDepth 100000 in
theorem ctX2_sweep (l : Launch) (D : va_G) (cB cI cJ cZ cR : ClassId) (tz : Nat) (q_t : Nat) (q_t_cells : Nat) (q_t_swept : Nat) (t_size : Int32) (t_rank : Int32) (t_lower : Int64) (t_cells : (Nat → Int64)) (t_swept : (Nat → Int32)) (k : (Nat → Int64) → (Nat → Int32) → Int32 → Int64 → Prop) (h : wpX2_sweep t_cells t_swept t_size t_rank t_lower k) : MV l yX2_sweep wsX2_sweep rmX2_sweep D (vTy cB cI cJ cZ cR) tz [.ref q_t] ([(q_t, .inr (2, [.ref q_t_cells, .ref q_t_swept, .int t_size, .int t_rank, .long t_lower])), (q_t_cells, .inl (cJ, 15, .inr (.inl t_cells))), (q_t_swept, .inl (cZ, 5, .inl t_swept))]) (fun (u : (Nat → Int64) × (Nat → Int32) × Int32 × Int64) => k u.1 u.2.1 u.2.2.1 u.2.2.2) (fun (u : (Nat → Int64) × (Nat → Int32) × Int32 × Int64) => [(q_t, .inr (2, [.ref q_t_cells, .ref q_t_swept, .int t_size, .int (u.2.2.1), .long (u.2.2.2)])), (q_t_cells, .inl (cJ, 15, .inr (.inl (u.1)))), (q_t_swept, .inl (cZ, 5, .inl (u.2.1)))]) 0 0 := by
  refine MV.of (cc := cX2_sweep) (maxL := 4) (ret := none) (by decide) rfl (Nat.le_of_ble_eq_true rfl) ?_
  intro p e s m args below meth c A ls Q hQ E
  obtain ⟨hx, hb, hml, hr, hts, hown, hlk, hin, hP, hK, hD, hS, hA, hT, hl⟩ := E
  have hown : s.vm.findClass RX2 = some m.cls := hown
  have hl : lv_has ls 4 [(0, .ref q_t)] := hl
  have iX2 : ∀ w ∈ wsX20, w ∈ wsX2_sweep := fun _ h => List.mem_cons_of_mem _ (List.mem_append_right _ h)
  unfold wpX2_sweep at h
  refine lv_aload_n hx hb dX2_sweep_0 rfl (lv_at hl 0 rfl) ?_
  refine lv_lconst (v := 1) hx hb dX2_sweep_1 (by decide) ?_
  refine va_put (v := .long (1 : Int64)) (ty := .long) hx hb hts iX2 tyX2 tyX2_ok nmX2 hown hK hP hD hS 0 rfl rfl 4 (by decide) (hts _ mX2_sweep_1) (fun _ h9 => h9) rfl (tyX2_ok 4 (by decide)) rfl rfl (Nat.le_of_ble_eq_true rfl) dX2_sweep_2 (fun H locs hP hD hS => ?_)
  have hP : va_P D vwCl ([(q_t, .inr (2, [.ref q_t_cells, .ref q_t_swept, .int t_size, .int t_rank, .long (1 : Int64)])), (q_t_cells, .inl (cJ, 15, .inr (.inl t_cells))), (q_t_swept, .inl (cZ, 5, .inl t_swept))]) H := hP
  have hD : va_D A ([(q_t, .inr (2, [.ref q_t_cells, .ref q_t_swept, .int t_size, .int t_rank, .long (1 : Int64)])), (q_t_cells, .inl (cJ, 15, .inr (.inl t_cells))), (q_t_swept, .inl (cZ, 5, .inl t_swept))]) := hD
  refine lv_aload_n hx hb dX2_sweep_5 rfl (lv_at hl 0 rfl) ?_
  refine lv_iconst (v := 0) hx hb dX2_sweep_6 (by decide) ?_
  refine va_put (v := .int (0 : Int32)) (ty := .int) hx hb hts iX2 tyX2 tyX2_ok nmX2 hown hK hP hD hS 0 rfl rfl 3 (by decide) (hts _ mX2_sweep_2) (fun _ h9 => h9) rfl (tyX2_ok 3 (by decide)) rfl rfl (Nat.le_of_ble_eq_true rfl) dX2_sweep_7 (fun H locs hP hD hS => ?_)
  have hP : va_P D vwCl ([(q_t, .inr (2, [.ref q_t_cells, .ref q_t_swept, .int t_size, .int (0 : Int32), .long (1 : Int64)])), (q_t_cells, .inl (cJ, 15, .inr (.inl t_cells))), (q_t_swept, .inl (cZ, 5, .inl t_swept))]) H := hP
  have hD : va_D A ([(q_t, .inr (2, [.ref q_t_cells, .ref q_t_swept, .int t_size, .int (0 : Int32), .long (1 : Int64)])), (q_t_cells, .inl (cJ, 15, .inr (.inl t_cells))), (q_t_swept, .inl (cZ, 5, .inl t_swept))]) := hD
  refine lv_iconst (v := 0) hx hb dX2_sweep_10 (by decide) ?_
  refine lv_istore_n (lv' := [(1, .int (0 : Int32)), (0, .ref q_t)]) hx hb dX2_sweep_11 rfl hl (by decide) rfl (fun ls hl => ?_)
  have hL_12 : ∀ (n_12 : Nat) (x1_1 : Int32) (t_cells_2 : (Nat → Int64)) (t_swept_3 : (Nat → Int32)) (t_rank_4 : Int32) (t_lower_5 : Int64) (H : Heap) (locs : List Loc) (ls : Array Slot), wl (wbX2_sweep_12 t_size k) n_12 (x1_1, t_cells_2, t_swept_3, t_rank_4, t_lower_5) → va_P D vwCl ([(q_t, .inr (2, [.ref q_t_cells, .ref q_t_swept, .int t_size, .int t_rank_4, .long t_lower_5])), (q_t_cells, .inl (cJ, 15, .inr (.inl t_cells_2))), (q_t_swept, .inl (cZ, 5, .inl t_swept_3))]) H → va_D A ([(q_t, .inr (2, [.ref q_t_cells, .ref q_t_swept, .int t_size, .int t_rank_4, .long t_lower_5])), (q_t_cells, .inl (cJ, 15, .inr (.inl t_cells_2))), (q_t_swept, .inl (cZ, 5, .inl t_swept_3))]) → va_S A s.heap H locs → lv_has ls 4 [(0, .ref q_t), (1, .int x1_1)] → W p l e rmX2_sweep s m args below meth c H locs 0 0 Q (F0 m 12 ls []) := by
    intro n_12
    induction n_12 with
    | zero => intro x1_1 t_cells_2 t_swept_3 t_rank_4 t_lower_5 H locs ls h; exact h.elim
    | succ n_12 ih_12 =>
      intro x1_1 t_cells_2 t_swept_3 t_rank_4 t_lower_5 H locs ls h hP hD hS hl
      rw [wl, wbX2_sweep_12] at h
      refine lv_iload_n hx hb dX2_sweep_12 rfl (lv_at hl 1 rfl) ?_
      refine lv_aload_n hx hb dX2_sweep_13 rfl (lv_at hl 0 rfl) ?_
      refine va_get (v := .int t_size) hx hb hts iX2 hown hK hP 0 rfl rfl 2 (by decide) (hts _ mX2_sweep_3) (fun _ h9 => h9) rfl dX2_sweep_14 ?_
      obtain ⟨hp_6, hn_6⟩ := h
      refine lv_icmp_ge (tgt := 83) hx hb dX2_sweep_17 (by decide) (fun hc => ?_) (fun hc => ?_)
      · have h := hp_6 hc
        subst hQ
        exact vr_V (t_cells_2, t_swept_3, t_rank_4, t_lower_5) hx hb hr hlk hP hD hS [0, 1, 2] rfl rfl h dX2_sweep_83
      · have h := hn_6 hc
        refine lv_aload_n hx hb dX2_sweep_20 rfl (lv_at hl 0 rfl) ?_
        refine va_get (v := .ref q_t_cells) hx hb hts iX2 hown hK hP 0 rfl rfl 0 (by decide) (hts _ mX2_sweep_4) (fun _ h9 => h9) rfl dX2_sweep_21 ?_
        refine va_gets hx hb hT.1 hS hown (hts _ mX2_sweep_5) (fun _ h9 => h9) dX2_sweep_24 ?_
        refine lv_iload_n hx hb dX2_sweep_27 rfl (lv_at hl 1 rfl) ?_
        obtain ⟨hi_7, h⟩ := h
        refine vs_ald hx hb hT hS hi_7 rfl dX2_sweep_28 ?_
        refine lv_iload_n hx hb dX2_sweep_29 rfl (lv_at hl 1 rfl) ?_
        refine lv_iadd hx hb dX2_sweep_30 ?_
        obtain ⟨hi_8, h⟩ := h
        refine vl_ald hx hb hK hP 1 2 rfl rfl hi_8 rfl dX2_sweep_31 ?_
        refine lv_lstore_n (lv' := [(2, .long (t_cells_2 (((stI (x1_1.toNatClampNeg)) + x1_1).toNatClampNeg))), (0, .ref q_t), (1, .int x1_1)]) hx hb dX2_sweep_32 rfl hl (by decide) rfl (fun ls hl => ?_)
        refine lv_aload_n hx hb dX2_sweep_33 rfl (lv_at hl 1 rfl) ?_
        refine va_get (v := .ref q_t_swept) hx hb hts iX2 hown hK hP 0 rfl rfl 1 (by decide) (hts _ mX2_sweep_6) (fun _ h9 => h9) rfl dX2_sweep_34 ?_
        refine lv_iload_n hx hb dX2_sweep_37 rfl (lv_at hl 2 rfl) ?_
        refine lv_lload_n hx hb dX2_sweep_38 rfl (lv_at hl 0 rfl) ?_
        refine lv_lconst (v := 0) hx hb dX2_sweep_39 (by decide) ?_
        refine W.lcmp hx hb dX2_sweep_40 ?_
        have hJ_49 : ∀ (s1_9 : Int32) (s2_10 : Int32) (H : Heap) (locs : List Loc) (ls : Array Slot), wjX2_sweep_49 t_size x1_1 t_cells_2 t_swept_3 t_rank_4 t_lower_5 (wl (wbX2_sweep_12 t_size k) n_12) s1_9 s2_10 → va_P D vwCl ([(q_t, .inr (2, [.ref q_t_cells, .ref q_t_swept, .int t_size, .int t_rank_4, .long t_lower_5])), (q_t_cells, .inl (cJ, 15, .inr (.inl t_cells_2))), (q_t_swept, .inl (cZ, 5, .inl t_swept_3))]) H → va_D A ([(q_t, .inr (2, [.ref q_t_cells, .ref q_t_swept, .int t_size, .int t_rank_4, .long t_lower_5])), (q_t_cells, .inl (cJ, 15, .inr (.inl t_cells_2))), (q_t_swept, .inl (cZ, 5, .inl t_swept_3))]) → va_S A s.heap H locs → lv_has ls 4 [(0, .ref q_t), (1, .int x1_1), (2, .long (t_cells_2 (((stI (x1_1.toNatClampNeg)) + x1_1).toNatClampNeg)))] → W p l e rmX2_sweep s m args below meth c H locs 0 0 Q (F0 m 49 ls [.int s2_10, .int s1_9, .ref q_t_swept]) := by
          intro s1_9 s2_10 H locs ls h hP hD hS hl
          unfold wjX2_sweep_49 at h
          obtain ⟨hi_11, h⟩ := h
          refine vz_ast (x := s2_10) hx hb hK hP hD hS 2 3 rfl rfl hi_11 rfl dX2_sweep_49 (fun H locs hP hD hS => ?_)
          have hP : va_P D vwCl ([(q_t, .inr (2, [.ref q_t_cells, .ref q_t_swept, .int t_size, .int t_rank_4, .long t_lower_5])), (q_t_cells, .inl (cJ, 15, .inr (.inl t_cells_2))), (q_t_swept, .inl (cZ, 5, .inl (upd t_swept_3 (s1_9.toNatClampNeg) (vp_nar .boolean s2_10))))]) H := hP
          have hD : va_D A ([(q_t, .inr (2, [.ref q_t_cells, .ref q_t_swept, .int t_size, .int t_rank_4, .long t_lower_5])), (q_t_cells, .inl (cJ, 15, .inr (.inl t_cells_2))), (q_t_swept, .inl (cZ, 5, .inl (upd t_swept_3 (s1_9.toNatClampNeg) (vp_nar .boolean s2_10))))]) := hD
          refine lv_lload_n hx hb dX2_sweep_50 rfl (lv_at hl 2 rfl) ?_
          refine lv_lconst (v := 0) hx hb dX2_sweep_51 (by decide) ?_
          refine W.lcmp hx hb dX2_sweep_52 ?_
          obtain ⟨hp_12, hn_12⟩ := h
          refine lv_if_le (tgt := 77) hx hb dX2_sweep_53 (by decide) (fun hc => ?_) (fun hc => ?_)
          · have h := hp_12 ((lg_cmp_le (t_cells_2 (((stI (x1_1.toNatClampNeg)) + x1_1).toNatClampNeg)) (0 : Int64)).mp hc)
            refine lv_iinc (v := x1_1 + (1 : Int32)) (lv' := [(1, .int (x1_1 + (1 : Int32))), (0, .ref q_t), (2, .long (t_cells_2 (((stI (x1_1.toNatClampNeg)) + x1_1).toNatClampNeg)))]) hx hb dX2_sweep_77 hl (k := 1) rfl rfl (by decide) rfl (fun ls hl => ?_)
            refine lv_goto (tgt := 12) hx hb dX2_sweep_80 (by decide) ?_
            exact ih_12 (x1_1 + (1 : Int32)) t_cells_2 (upd t_swept_3 (s1_9.toNatClampNeg) (vp_nar .boolean s2_10)) t_rank_4 t_lower_5 _ _ _ h hP hD hS (lv_sub hl [1, 0] rfl)
          · have h := hn_12 (fun q => hc ((lg_cmp_le (t_cells_2 (((stI (x1_1.toNatClampNeg)) + x1_1).toNatClampNeg)) (0 : Int64)).mpr q))
            refine lv_aload_n hx hb dX2_sweep_56 rfl (lv_at hl 0 rfl) ?_
            refine lv_iload_n hx hb dX2_sweep_57 rfl (lv_at hl 1 rfl) ?_
            refine lv_lload_n hx hb dX2_sweep_58 rfl (lv_at hl 2 rfl) ?_
            refine vc_VV (As := [.int x1_1, .long (t_cells_2 (((stI (x1_1.toNatClampNeg)) + x1_1).toNatClampNeg))]) (rest := []) (wr := [(q_t_swept, .inl (cZ, 5, .inl (upd t_swept_3 (s1_9.toNatClampNeg) (vp_nar .boolean s2_10))))]) ⟨hx, hb, hml, hown, hts⟩ (ctX2_sweepLine l D cB cI cJ cZ cR tz q_t q_t_cells q_t_swept t_size t_rank_4 t_lower_5 t_cells_2 x1_1 (t_cells_2 (((stI (x1_1.toNatClampNeg)) + x1_1).toNatClampNeg)) _ h) (cwV 2 hts gX2_sweep_X2_sweepLine rfl rfl rfl hdX2_sweepLine ⟨Nat.le_of_ble_eq_true rfl, Nat.le_of_ble_eq_true rfl⟩) hK hP hD hS hA hT [0, 1] [2] rfl rfl rfl rfl (by decide) 0 2 rfl rfl rfl rfl hl.1 (Nat.le_of_ble_eq_true rfl) dX2_sweep_59 ⟨Nat.le_of_ble_eq_true rfl, Nat.le_of_ble_eq_true rfl⟩ (fun t_cells_13 H locs h hP hD hS => ?_)
            have hP : va_P D vwCl ([(q_t, .inr (2, [.ref q_t_cells, .ref q_t_swept, .int t_size, .int t_rank_4, .long t_lower_5])), (q_t_cells, .inl (cJ, 15, .inr (.inl t_cells_13))), (q_t_swept, .inl (cZ, 5, .inl (upd t_swept_3 (s1_9.toNatClampNeg) (vp_nar .boolean s2_10))))]) H := hP.sub [1, 2, 0] rfl
            have hD : va_D A ([(q_t, .inr (2, [.ref q_t_cells, .ref q_t_swept, .int t_size, .int t_rank_4, .long t_lower_5])), (q_t_cells, .inl (cJ, 15, .inr (.inl t_cells_13))), (q_t_swept, .inl (cZ, 5, .inl (upd t_swept_3 (s1_9.toNatClampNeg) (vp_nar .boolean s2_10))))]) := hD.sub [1, 2, 0] rfl rfl
            try dsimp only at h
            refine lv_aload_n hx hb dX2_sweep_62 rfl (lv_at hl 0 rfl) ?_
            refine lv_lload_n hx hb dX2_sweep_63 rfl (lv_at hl 2 rfl) ?_
            refine va_put (v := .long (t_cells_2 (((stI (x1_1.toNatClampNeg)) + x1_1).toNatClampNeg))) (ty := .long) hx hb hts iX2 tyX2 tyX2_ok nmX2 hown hK hP hD hS 0 rfl rfl 4 (by decide) (hts _ mX2_sweep_1) (fun _ h9 => h9) rfl (tyX2_ok 4 (by decide)) rfl rfl (Nat.le_of_ble_eq_true rfl) dX2_sweep_64 (fun H locs hP hD hS => ?_)
            have hP : va_P D vwCl ([(q_t, .inr (2, [.ref q_t_cells, .ref q_t_swept, .int t_size, .int t_rank_4, .long (t_cells_2 (((stI (x1_1.toNatClampNeg)) + x1_1).toNatClampNeg))])), (q_t_cells, .inl (cJ, 15, .inr (.inl t_cells_13))), (q_t_swept, .inl (cZ, 5, .inl (upd t_swept_3 (s1_9.toNatClampNeg) (vp_nar .boolean s2_10))))]) H := hP
            have hD : va_D A ([(q_t, .inr (2, [.ref q_t_cells, .ref q_t_swept, .int t_size, .int t_rank_4, .long (t_cells_2 (((stI (x1_1.toNatClampNeg)) + x1_1).toNatClampNeg))])), (q_t_cells, .inl (cJ, 15, .inr (.inl t_cells_13))), (q_t_swept, .inl (cZ, 5, .inl (upd t_swept_3 (s1_9.toNatClampNeg) (vp_nar .boolean s2_10))))]) := hD
            refine lv_aload_n hx hb dX2_sweep_67 rfl (lv_at hl 0 rfl) ?_
            refine lv_dup hx hb dX2_sweep_68 rfl ?_
            refine va_get (v := .int t_rank_4) hx hb hts iX2 hown hK hP 0 rfl rfl 3 (by decide) (hts _ mX2_sweep_2) (fun _ h9 => h9) rfl dX2_sweep_69 ?_
            refine lv_iconst (v := 1) hx hb dX2_sweep_72 (by decide) ?_
            refine lv_iadd hx hb dX2_sweep_73 ?_
            refine va_put (v := .int (t_rank_4 + (1 : Int32))) (ty := .int) hx hb hts iX2 tyX2 tyX2_ok nmX2 hown hK hP hD hS 0 rfl rfl 3 (by decide) (hts _ mX2_sweep_2) (fun _ h9 => h9) rfl (tyX2_ok 3 (by decide)) rfl rfl (Nat.le_of_ble_eq_true rfl) dX2_sweep_74 (fun H locs hP hD hS => ?_)
            have hP : va_P D vwCl ([(q_t, .inr (2, [.ref q_t_cells, .ref q_t_swept, .int t_size, .int (t_rank_4 + (1 : Int32)), .long (t_cells_2 (((stI (x1_1.toNatClampNeg)) + x1_1).toNatClampNeg))])), (q_t_cells, .inl (cJ, 15, .inr (.inl t_cells_13))), (q_t_swept, .inl (cZ, 5, .inl (upd t_swept_3 (s1_9.toNatClampNeg) (vp_nar .boolean s2_10))))]) H := hP
            have hD : va_D A ([(q_t, .inr (2, [.ref q_t_cells, .ref q_t_swept, .int t_size, .int (t_rank_4 + (1 : Int32)), .long (t_cells_2 (((stI (x1_1.toNatClampNeg)) + x1_1).toNatClampNeg))])), (q_t_cells, .inl (cJ, 15, .inr (.inl t_cells_13))), (q_t_swept, .inl (cZ, 5, .inl (upd t_swept_3 (s1_9.toNatClampNeg) (vp_nar .boolean s2_10))))]) := hD
            refine lv_iinc (v := x1_1 + (1 : Int32)) (lv' := [(1, .int (x1_1 + (1 : Int32))), (0, .ref q_t), (2, .long (t_cells_2 (((stI (x1_1.toNatClampNeg)) + x1_1).toNatClampNeg)))]) hx hb dX2_sweep_77 hl (k := 1) rfl rfl (by decide) rfl (fun ls hl => ?_)
            refine lv_goto (tgt := 12) hx hb dX2_sweep_80 (by decide) ?_
            exact ih_12 (x1_1 + (1 : Int32)) t_cells_13 (upd t_swept_3 (s1_9.toNatClampNeg) (vp_nar .boolean s2_10)) (t_rank_4 + (1 : Int32)) (t_cells_2 (((stI (x1_1.toNatClampNeg)) + x1_1).toNatClampNeg)) _ _ _ h hP hD hS (lv_sub hl [1, 0] rfl)
        obtain ⟨hp_14, hn_14⟩ := h
        refine lv_if_le (tgt := 48) hx hb dX2_sweep_41 (by decide) (fun hc => ?_) (fun hc => ?_)
        · have h := hp_14 ((lg_cmp_le (t_cells_2 (((stI (x1_1.toNatClampNeg)) + x1_1).toNatClampNeg)) (0 : Int64)).mp hc)
          refine lv_iconst (v := 0) hx hb dX2_sweep_48 (by decide) ?_
          exact hJ_49 x1_1 (0 : Int32) _ _ _ h hP hD hS (lv_sub hl [1, 2, 0] rfl)
        · have h := hn_14 (fun q => hc ((lg_cmp_le (t_cells_2 (((stI (x1_1.toNatClampNeg)) + x1_1).toNatClampNeg)) (0 : Int64)).mpr q))
          refine lv_iconst (v := 1) hx hb dX2_sweep_44 (by decide) ?_
          refine lv_goto (tgt := 49) hx hb dX2_sweep_45 (by decide) ?_
          exact hJ_49 x1_1 (1 : Int32) _ _ _ h hP hD hS (lv_sub hl [1, 2, 0] rfl)
  obtain ⟨n_12, h⟩ := h
  exact hL_12 n_12 (0 : Int32) t_cells t_swept (0 : Int32) (1 : Int64) _ _ _ h hP hD hS (lv_sub hl [1, 0] rfl)
theorem mX2_reaches_1 : Cond.fieldLink RX2 19 "TrialDesk$Grid" "size" "I" ∈ wsX2_reaches := List.mem_of_getElem? (i := 1) (by decide +kernel)
theorem mX2_reaches_2 : Cond.fieldLink RX2 15 "TrialDesk$Grid" "swept" "[Z" ∈ wsX2_reaches := List.mem_of_getElem? (i := 2) (by decide +kernel)
theorem mX2_reaches_3 : Cond.fieldLink RX2 9 "TrialDesk$Grid" "cells" "[J" ∈ wsX2_reaches := List.mem_of_getElem? (i := 3) (by decide +kernel)
theorem mX2_reaches_4 : Cond.fieldLink RX2 23 "TrialDesk$Grid" "lower" "J" ∈ wsX2_reaches := List.mem_of_getElem? (i := 4) (by decide +kernel)
abbrev rmX2_reaches : Room := { frames := 1, cells := 0, slots := 0, locals := 21 }
set_option maxHeartbeats 4000000 in
set_option maxRecDepth 100000 in
theorem ctX2_reaches (l : Launch) (D : va_G) (cB cI cJ cZ cR : ClassId) (tz : Nat) (q_t : Nat) (q_t_cells : Nat) (q_t_swept : Nat) (q_p1 : Nat) (t_size : Int32) (t_rank : Int32) (t_lower : Int64) (t_cells : (Nat → Int64)) (t_swept : (Nat → Int32)) (p1 : (Nat → Int64)) (k : Int32 → Prop) (h : wpX2_reaches t_cells t_swept t_size t_lower p1 k) : MI l yX2_reaches wsX2_reaches rmX2_reaches D (vTy cB cI cJ cZ cR) tz [.ref q_t, .ref q_p1] ([(q_t, .inr (2, [.ref q_t_cells, .ref q_t_swept, .int t_size, .int t_rank, .long t_lower])), (q_t_cells, .inl (cJ, 15, .inr (.inl t_cells))), (q_t_swept, .inl (cZ, 5, .inl t_swept)), (q_p1, .inl (cJ, 5, .inr (.inl p1)))]) (fun (r : Int32) (u : Unit) => k r) (fun (u : Unit) => [(q_t, .inr (2, [.ref q_t_cells, .ref q_t_swept, .int t_size, .int t_rank, .long t_lower])), (q_t_cells, .inl (cJ, 15, .inr (.inl t_cells))), (q_t_swept, .inl (cZ, 5, .inl t_swept)), (q_p1, .inl (cJ, 5, .inr (.inl p1)))]) 0 0 := by
  refine MI.of (cc := cX2_reaches) (maxL := 6) (ret := (some .boolean)) (by decide) rfl (Nat.le_of_ble_eq_true rfl) ?_
  intro p e s m args below meth c A ls Q hQ E
  obtain ⟨hx, hb, hml, hr, hts, hown, hlk, hin, hP, hK, hD, hS, hA, hT, hl⟩ := E
  have hown : s.vm.findClass RX2 = some m.cls := hown
  have hl : lv_has ls 6 [(0, .ref q_t), (1, .ref q_p1)] := hl
  have iX2 : ∀ w ∈ wsX20, w ∈ wsX2_reaches := fun _ h => List.mem_cons_of_mem _ (List.mem_append_right _ h)
  unfold wpX2_reaches at h
  refine lv_iconst (v := 0) hx hb dX2_reaches_0 (by decide) ?_
  refine lv_istore_n (lv' := [(2, .int (0 : Int32)), (0, .ref q_t), (1, .ref q_p1)]) hx hb dX2_reaches_1 rfl hl (by decide) rfl (fun ls hl => ?_)
  have hL_2 : ∀ (n_2 : Nat) (x2_1 : Int32) (H : Heap) (locs : List Loc) (ls : Array Slot), wl (wbX2_reaches_2 t_size t_lower t_cells t_swept p1 k) n_2 x2_1 → va_P D vwCl ([(q_t, .inr (2, [.ref q_t_cells, .ref q_t_swept, .int t_size, .int t_rank, .long t_lower])), (q_t_cells, .inl (cJ, 15, .inr (.inl t_cells))), (q_t_swept, .inl (cZ, 5, .inl t_swept)), (q_p1, .inl (cJ, 5, .inr (.inl p1)))]) H → va_D A ([(q_t, .inr (2, [.ref q_t_cells, .ref q_t_swept, .int t_size, .int t_rank, .long t_lower])), (q_t_cells, .inl (cJ, 15, .inr (.inl t_cells))), (q_t_swept, .inl (cZ, 5, .inl t_swept)), (q_p1, .inl (cJ, 5, .inr (.inl p1)))]) → va_S A s.heap H locs → lv_has ls 6 [(0, .ref q_t), (1, .ref q_p1), (2, .int x2_1)] → W p l e rmX2_reaches s m args below meth c H locs 0 0 Q (F0 m 2 ls []) := by
    intro n_2
    induction n_2 with
    | zero => intro x2_1 H locs ls h; exact h.elim
    | succ n_2 ih_2 =>
      intro x2_1 H locs ls h hP hD hS hl
      rw [wl, wbX2_reaches_2] at h
      refine lv_iload_n hx hb dX2_reaches_2 rfl (lv_at hl 2 rfl) ?_
      refine lv_aload_n hx hb dX2_reaches_3 rfl (lv_at hl 0 rfl) ?_
      refine va_get (v := .int t_size) hx hb hts iX2 hown hK hP 0 rfl rfl 2 (by decide) (hts _ mX2_reaches_1) (fun _ h9 => h9) rfl dX2_reaches_4 ?_
      obtain ⟨hp_2, hn_2⟩ := h
      refine lv_icmp_ge (tgt := 96) hx hb dX2_reaches_7 (by decide) (fun hc => ?_) (fun hc => ?_)
      · have h := hp_2 hc
        refine lv_iconst (v := 1) hx hb dX2_reaches_96 (by decide) ?_
        subst hQ
        exact vr_Z (v := (1 : Int32)) () hx hb hr hlk rfl hP hD hS [0, 1, 2, 3] rfl rfl h dX2_reaches_97
      · have h := hn_2 hc
        refine lv_aload_n hx hb dX2_reaches_10 rfl (lv_at hl 0 rfl) ?_
        refine va_get (v := .ref q_t_swept) hx hb hts iX2 hown hK hP 0 rfl rfl 1 (by decide) (hts _ mX2_reaches_2) (fun _ h9 => h9) rfl dX2_reaches_11 ?_
        refine lv_iload_n hx hb dX2_reaches_14 rfl (lv_at hl 2 rfl) ?_
        obtain ⟨hi_3, h⟩ := h
        refine vz_ald hx hb hK hP 2 3 rfl rfl hi_3 rfl dX2_reaches_15 ?_
        obtain ⟨hp_4, hn_4⟩ := h
        refine lv_if_eq (tgt := 22) hx hb dX2_reaches_16 (by decide) (fun hc => ?_) (fun hc => ?_)
        · have h := hp_4 hc
          refine lv_lconst (v := 0) hx hb dX2_reaches_22 (by decide) ?_
          refine lv_lstore_n (lv' := [(3, .long (0 : Int64)), (0, .ref q_t), (1, .ref q_p1), (2, .int x2_1)]) hx hb dX2_reaches_23 rfl hl (by decide) rfl (fun ls hl => ?_)
          refine lv_iconst (v := 0) hx hb dX2_reaches_24 (by decide) ?_
          refine lv_istore (lv' := [(5, .int (0 : Int32)), (3, .long (0 : Int64)), (0, .ref q_t), (1, .ref q_p1), (2, .int x2_1)]) hx hb dX2_reaches_25 hl (by decide) rfl (fun ls hl => ?_)
          have hL_27 : ∀ (n_27 : Nat) (x3_5 : Int64) (x5_6 : Int32) (H : Heap) (locs : List Loc) (ls : Array Slot), wl (wbX2_reaches_27 t_size t_lower t_cells t_swept p1 k x2_1 (wl (wbX2_reaches_2 t_size t_lower t_cells t_swept p1 k) n_2)) n_27 (x3_5, x5_6) → va_P D vwCl ([(q_t, .inr (2, [.ref q_t_cells, .ref q_t_swept, .int t_size, .int t_rank, .long t_lower])), (q_t_cells, .inl (cJ, 15, .inr (.inl t_cells))), (q_t_swept, .inl (cZ, 5, .inl t_swept)), (q_p1, .inl (cJ, 5, .inr (.inl p1)))]) H → va_D A ([(q_t, .inr (2, [.ref q_t_cells, .ref q_t_swept, .int t_size, .int t_rank, .long t_lower])), (q_t_cells, .inl (cJ, 15, .inr (.inl t_cells))), (q_t_swept, .inl (cZ, 5, .inl t_swept)), (q_p1, .inl (cJ, 5, .inr (.inl p1)))]) → va_S A s.heap H locs → lv_has ls 6 [(0, .ref q_t), (1, .ref q_p1), (2, .int x2_1), (3, .long x3_5), (5, .int x5_6)] → W p l e rmX2_reaches s m args below meth c H locs 0 0 Q (F0 m 27 ls []) := by
            intro n_27
            induction n_27 with
            | zero => intro x3_5 x5_6 H locs ls h; exact h.elim
            | succ n_27 ih_27 =>
              intro x3_5 x5_6 H locs ls h hP hD hS hl
              rw [wl, wbX2_reaches_27] at h
              refine lv_iload hx hb dX2_reaches_27 (lv_at hl 4 rfl) ?_
              refine lv_aload_n hx hb dX2_reaches_29 rfl (lv_at hl 0 rfl) ?_
              refine va_get (v := .int t_size) hx hb hts iX2 hown hK hP 0 rfl rfl 2 (by decide) (hts _ mX2_reaches_1) (fun _ h9 => h9) rfl dX2_reaches_30 ?_
              obtain ⟨hp_7, hn_7⟩ := h
              refine lv_icmp_ge (tgt := 75) hx hb dX2_reaches_33 (by decide) (fun hc => ?_) (fun hc => ?_)
              · have h := hp_7 hc
                refine lv_lload_n hx hb dX2_reaches_75 rfl (lv_at hl 3 rfl) ?_
                refine lv_aload_n hx hb dX2_reaches_76 rfl (lv_at hl 1 rfl) ?_
                refine lv_iload_n hx hb dX2_reaches_77 rfl (lv_at hl 2 rfl) ?_
                obtain ⟨hi_8, h⟩ := h
                refine vl_ald hx hb hK hP 3 2 rfl rfl hi_8 rfl dX2_reaches_78 ?_
                refine lv_aload_n hx hb dX2_reaches_79 rfl (lv_at hl 0 rfl) ?_
                refine va_get (v := .long t_lower) hx hb hts iX2 hown hK hP 0 rfl rfl 4 (by decide) (hts _ mX2_reaches_4) (fun _ h9 => h9) rfl dX2_reaches_80 ?_
                refine lv_lmul hx hb dX2_reaches_83 ?_
                refine W.lcmp hx hb dX2_reaches_84 ?_
                obtain ⟨hp_9, hn_9⟩ := h
                refine lv_if_eq (tgt := 90) hx hb dX2_reaches_85 (by decide) (fun hc => ?_) (fun hc => ?_)
                · have h := hp_9 ((lg_cmp_eq x3_5 ((p1 (x2_1.toNatClampNeg)) * t_lower)).mp hc)
                  refine lv_iinc (v := x2_1 + (1 : Int32)) (lv' := [(2, .int (x2_1 + (1 : Int32))), (0, .ref q_t), (1, .ref q_p1), (3, .long x3_5), (5, .int x5_6)]) hx hb dX2_reaches_90 hl (k := 2) rfl rfl (by decide) rfl (fun ls hl => ?_)
                  refine lv_goto (tgt := 2) hx hb dX2_reaches_93 (by decide) ?_
                  exact ih_2 (x2_1 + (1 : Int32)) _ _ _ h hP hD hS (lv_sub hl [1, 2, 0] rfl)
                · have h := hn_9 (fun q => hc ((lg_cmp_eq x3_5 ((p1 (x2_1.toNatClampNeg)) * t_lower)).mpr q))
                  refine lv_iconst (v := 0) hx hb dX2_reaches_88 (by decide) ?_
                  subst hQ
                  exact vr_Z (v := (0 : Int32)) () hx hb hr hlk rfl hP hD hS [0, 1, 2, 3] rfl rfl h dX2_reaches_89
              · have h := hn_7 hc
                refine lv_lload_n hx hb dX2_reaches_36 rfl (lv_at hl 3 rfl) ?_
                refine lv_aload_n hx hb dX2_reaches_37 rfl (lv_at hl 0 rfl) ?_
                refine va_get (v := .ref q_t_swept) hx hb hts iX2 hown hK hP 0 rfl rfl 1 (by decide) (hts _ mX2_reaches_2) (fun _ h9 => h9) rfl dX2_reaches_38 ?_
                refine lv_iload hx hb dX2_reaches_41 (lv_at hl 4 rfl) ?_
                obtain ⟨hi_10, h⟩ := h
                refine vz_ald hx hb hK hP 2 3 rfl rfl hi_10 rfl dX2_reaches_43 ?_
                obtain ⟨hp_11, hn_11⟩ := h
                refine lv_if_eq (tgt := 66) hx hb dX2_reaches_44 (by decide) (fun hc => ?_) (fun hc => ?_)
                · have h := hp_11 hc
                  refine lv_lconst (v := 0) hx hb dX2_reaches_66 (by decide) ?_
                  refine lv_ladd hx hb dX2_reaches_67 ?_
                  refine lv_lstore_n (lv' := [(3, .long (x3_5 + (0 : Int64))), (0, .ref q_t), (1, .ref q_p1), (2, .int x2_1), (5, .int x5_6)]) hx hb dX2_reaches_68 rfl hl (by decide) rfl (fun ls hl => ?_)
                  refine lv_iinc (v := x5_6 + (1 : Int32)) (lv' := [(5, .int (x5_6 + (1 : Int32))), (3, .long (x3_5 + (0 : Int64))), (0, .ref q_t), (1, .ref q_p1), (2, .int x2_1)]) hx hb dX2_reaches_69 hl (k := 4) rfl rfl (by decide) rfl (fun ls hl => ?_)
                  refine lv_goto (tgt := 27) hx hb dX2_reaches_72 (by decide) ?_
                  exact ih_27 (x3_5 + (0 : Int64)) (x5_6 + (1 : Int32)) _ _ _ h hP hD hS (lv_sub hl [2, 3, 4, 1, 0] rfl)
                · have h := hn_11 hc
                  refine lv_aload_n hx hb dX2_reaches_47 rfl (lv_at hl 1 rfl) ?_
                  refine lv_iload hx hb dX2_reaches_48 (lv_at hl 4 rfl) ?_
                  obtain ⟨hi_12, h⟩ := h
                  refine vl_ald hx hb hK hP 3 2 rfl rfl hi_12 rfl dX2_reaches_50 ?_
                  refine lv_aload_n hx hb dX2_reaches_51 rfl (lv_at hl 0 rfl) ?_
                  refine va_get (v := .ref q_t_cells) hx hb hts iX2 hown hK hP 0 rfl rfl 0 (by decide) (hts _ mX2_reaches_3) (fun _ h9 => h9) rfl dX2_reaches_52 ?_
                  refine lv_iload hx hb dX2_reaches_55 (lv_at hl 4 rfl) ?_
                  refine lv_iload_n hx hb dX2_reaches_57 rfl (lv_at hl 2 rfl) ?_
                  refine vc_SI (As := [.int x5_6, .int x2_1]) (rest := [.ref q_t_cells, .long (p1 (x5_6.toNatClampNeg)), .long x3_5]) (wr := [(q_t, .inr (2, [.ref q_t_cells, .ref q_t_swept, .int t_size, .int t_rank, .long t_lower])), (q_t_cells, .inl (cJ, 15, .inr (.inl t_cells))), (q_t_swept, .inl (cZ, 5, .inl t_swept)), (q_p1, .inl (cJ, 5, .inr (.inl p1)))]) ⟨hx, hb, hml, hown, hts⟩ (ctX2_cellAt l D cB cI cJ cZ cR tz x5_6 x2_1 _ h) (va_cwS 2 hts gX2_reaches_X2_cellAt rfl rfl rfl hdX2_cellAt.2 ⟨Nat.le_of_ble_eq_true rfl, Nat.le_of_ble_eq_true rfl⟩) hK hP hD hS hA hT [] [0, 1, 2, 3] rfl rfl rfl rfl (by decide) rfl rfl hl.1 (Nat.le_of_ble_eq_true rfl) dX2_reaches_58 ⟨Nat.le_of_ble_eq_true rfl, Nat.le_of_ble_eq_true rfl⟩ (fun r_13 u9 H locs h hP hD hS => ?_)
                  have hP : va_P D vwCl ([(q_t, .inr (2, [.ref q_t_cells, .ref q_t_swept, .int t_size, .int t_rank, .long t_lower])), (q_t_cells, .inl (cJ, 15, .inr (.inl t_cells))), (q_t_swept, .inl (cZ, 5, .inl t_swept)), (q_p1, .inl (cJ, 5, .inr (.inl p1)))]) H := hP.sub [0, 1, 2, 3] rfl
                  have hD : va_D A ([(q_t, .inr (2, [.ref q_t_cells, .ref q_t_swept, .int t_size, .int t_rank, .long t_lower])), (q_t_cells, .inl (cJ, 15, .inr (.inl t_cells))), (q_t_swept, .inl (cZ, 5, .inl t_swept)), (q_p1, .inl (cJ, 5, .inr (.inl p1)))]) := hD.sub [0, 1, 2, 3] rfl rfl
                  try dsimp only at h
                  obtain ⟨hi_14, h⟩ := h
                  refine vl_ald hx hb hK hP 1 2 rfl rfl hi_14 rfl dX2_reaches_61 ?_
                  refine lv_lmul hx hb dX2_reaches_62 ?_
                  refine lv_goto (tgt := 67) hx hb dX2_reaches_63 (by decide) ?_
                  refine lv_ladd hx hb dX2_reaches_67 ?_
                  refine lv_lstore_n (lv' := [(3, .long (x3_5 + ((p1 (x5_6.toNatClampNeg)) * (t_cells (r_13.toNatClampNeg))))), (0, .ref q_t), (1, .ref q_p1), (2, .int x2_1), (5, .int x5_6)]) hx hb dX2_reaches_68 rfl hl (by decide) rfl (fun ls hl => ?_)
                  refine lv_iinc (v := x5_6 + (1 : Int32)) (lv' := [(5, .int (x5_6 + (1 : Int32))), (3, .long (x3_5 + ((p1 (x5_6.toNatClampNeg)) * (t_cells (r_13.toNatClampNeg))))), (0, .ref q_t), (1, .ref q_p1), (2, .int x2_1)]) hx hb dX2_reaches_69 hl (k := 4) rfl rfl (by decide) rfl (fun ls hl => ?_)
                  refine lv_goto (tgt := 27) hx hb dX2_reaches_72 (by decide) ?_
                  exact ih_27 (x3_5 + ((p1 (x5_6.toNatClampNeg)) * (t_cells (r_13.toNatClampNeg)))) (x5_6 + (1 : Int32)) _ _ _ h hP hD hS (lv_sub hl [2, 3, 4, 1, 0] rfl)
          obtain ⟨n_27, h⟩ := h
          exact hL_27 n_27 (0 : Int64) (0 : Int32) _ _ _ h hP hD hS (lv_sub hl [2, 3, 4, 1, 0] rfl)
        · have h := hn_4 hc
          refine lv_goto (tgt := 90) hx hb dX2_reaches_19 (by decide) ?_
          refine lv_iinc (v := x2_1 + (1 : Int32)) (lv' := [(2, .int (x2_1 + (1 : Int32))), (0, .ref q_t), (1, .ref q_p1)]) hx hb dX2_reaches_90 hl (k := 2) rfl rfl (by decide) rfl (fun ls hl => ?_)
          refine lv_goto (tgt := 2) hx hb dX2_reaches_93 (by decide) ?_
          exact ih_2 (x2_1 + (1 : Int32)) _ _ _ h hP hD hS (lv_sub hl [1, 2, 0] rfl)
  obtain ⟨n_2, h⟩ := h
  exact hL_2 n_2 (0 : Int32) _ _ _ h hP hD hS (lv_sub hl [1, 2, 0] rfl)
theorem mX2_measure_1 : Cond.fieldLink RX2 19 "TrialDesk$Grid" "size" "I" ∈ wsX2_measure := List.mem_of_getElem? (i := 1) (by decide +kernel)
theorem mX2_measure_2 : Cond.fieldLink RX2 15 "TrialDesk$Grid" "swept" "[Z" ∈ wsX2_measure := List.mem_of_getElem? (i := 2) (by decide +kernel)
theorem mX2_measure_3 : Cond.fieldLink RX2 9 "TrialDesk$Grid" "cells" "[J" ∈ wsX2_measure := List.mem_of_getElem? (i := 3) (by decide +kernel)
abbrev rmX2_measure : Room := { frames := 1, cells := 0, slots := 0, locals := 21 }
set_option maxHeartbeats 4000000 in
set_option maxRecDepth 100000 in
theorem ctX2_measure (l : Launch) (D : va_G) (cB cI cJ cZ cR : ClassId) (tz : Nat) (q_t : Nat) (q_t_cells : Nat) (q_t_swept : Nat) (q_p1 : Nat) (q_p2 : Nat) (t_size : Int32) (t_rank : Int32) (t_lower : Int64) (t_cells : (Nat → Int64)) (t_swept : (Nat → Int32)) (p1 : (Nat → Int64)) (p2 : (Nat → Int64)) (k : Int64 → Prop) (h : wpX2_measure t_cells t_swept t_size p1 p2 k) : ML l yX2_measure wsX2_measure rmX2_measure D (vTy cB cI cJ cZ cR) tz [.ref q_t, .ref q_p1, .ref q_p2] ([(q_t, .inr (2, [.ref q_t_cells, .ref q_t_swept, .int t_size, .int t_rank, .long t_lower])), (q_t_cells, .inl (cJ, 15, .inr (.inl t_cells))), (q_t_swept, .inl (cZ, 5, .inl t_swept)), (q_p1, .inl (cJ, 5, .inr (.inl p1))), (q_p2, .inl (cJ, 5, .inr (.inl p2)))]) (fun (r : Int64) (u : Unit) => k r) (fun (u : Unit) => [(q_t, .inr (2, [.ref q_t_cells, .ref q_t_swept, .int t_size, .int t_rank, .long t_lower])), (q_t_cells, .inl (cJ, 15, .inr (.inl t_cells))), (q_t_swept, .inl (cZ, 5, .inl t_swept)), (q_p1, .inl (cJ, 5, .inr (.inl p1))), (q_p2, .inl (cJ, 5, .inr (.inl p2)))]) 0 0 := by
  refine ML.of (cc := cX2_measure) (maxL := 7) (ret := (some .long)) (by decide) rfl (Nat.le_of_ble_eq_true rfl) ?_
  intro p e s m args below meth c A ls Q hQ E
  obtain ⟨hx, hb, hml, hr, hts, hown, hlk, hin, hP, hK, hD, hS, hA, hT, hl⟩ := E
  have hown : s.vm.findClass RX2 = some m.cls := hown
  have hl : lv_has ls 7 [(0, .ref q_t), (1, .ref q_p1), (2, .ref q_p2)] := hl
  have iX2 : ∀ w ∈ wsX20, w ∈ wsX2_measure := fun _ h => List.mem_cons_of_mem _ (List.mem_append_right _ h)
  unfold wpX2_measure at h
  refine lv_lconst (v := 0) hx hb dX2_measure_0 (by decide) ?_
  refine lv_lstore_n (lv' := [(3, .long (0 : Int64)), (0, .ref q_t), (1, .ref q_p1), (2, .ref q_p2)]) hx hb dX2_measure_1 rfl hl (by decide) rfl (fun ls hl => ?_)
  refine lv_iconst (v := 0) hx hb dX2_measure_2 (by decide) ?_
  refine lv_istore (lv' := [(5, .int (0 : Int32)), (3, .long (0 : Int64)), (0, .ref q_t), (1, .ref q_p1), (2, .ref q_p2)]) hx hb dX2_measure_3 hl (by decide) rfl (fun ls hl => ?_)
  have hL_5 : ∀ (n_5 : Nat) (x3_1 : Int64) (x5_2 : Int32) (H : Heap) (locs : List Loc) (ls : Array Slot), wl (wbX2_measure_5 t_size t_cells t_swept p1 p2 k) n_5 (x3_1, x5_2) → va_P D vwCl ([(q_t, .inr (2, [.ref q_t_cells, .ref q_t_swept, .int t_size, .int t_rank, .long t_lower])), (q_t_cells, .inl (cJ, 15, .inr (.inl t_cells))), (q_t_swept, .inl (cZ, 5, .inl t_swept)), (q_p1, .inl (cJ, 5, .inr (.inl p1))), (q_p2, .inl (cJ, 5, .inr (.inl p2)))]) H → va_D A ([(q_t, .inr (2, [.ref q_t_cells, .ref q_t_swept, .int t_size, .int t_rank, .long t_lower])), (q_t_cells, .inl (cJ, 15, .inr (.inl t_cells))), (q_t_swept, .inl (cZ, 5, .inl t_swept)), (q_p1, .inl (cJ, 5, .inr (.inl p1))), (q_p2, .inl (cJ, 5, .inr (.inl p2)))]) → va_S A s.heap H locs → lv_has ls 7 [(0, .ref q_t), (1, .ref q_p1), (2, .ref q_p2), (3, .long x3_1), (5, .int x5_2)] → W p l e rmX2_measure s m args below meth c H locs 0 0 Q (F0 m 5 ls []) := by
    intro n_5
    induction n_5 with
    | zero => intro x3_1 x5_2 H locs ls h; exact h.elim
    | succ n_5 ih_5 =>
      intro x3_1 x5_2 H locs ls h hP hD hS hl
      rw [wl, wbX2_measure_5] at h
      refine lv_iload hx hb dX2_measure_5 (lv_at hl 4 rfl) ?_
      refine lv_aload_n hx hb dX2_measure_7 rfl (lv_at hl 0 rfl) ?_
      refine va_get (v := .int t_size) hx hb hts iX2 hown hK hP 0 rfl rfl 2 (by decide) (hts _ mX2_measure_1) (fun _ h9 => h9) rfl dX2_measure_8 ?_
      obtain ⟨hp_3, hn_3⟩ := h
      refine lv_icmp_ge (tgt := 83) hx hb dX2_measure_11 (by decide) (fun hc => ?_) (fun hc => ?_)
      · have h := hp_3 hc
        refine lv_lload_n hx hb dX2_measure_83 rfl (lv_at hl 3 rfl) ?_
        subst hQ
        exact vr_L (v := x3_1) () hx hb hr hlk hP hD hS [0, 1, 2, 3, 4] rfl rfl h dX2_measure_84
      · have h := hn_3 hc
        refine lv_iconst (v := 0) hx hb dX2_measure_14 (by decide) ?_
        refine lv_istore (lv' := [(6, .int (0 : Int32)), (0, .ref q_t), (1, .ref q_p1), (2, .ref q_p2), (3, .long x3_1), (5, .int x5_2)]) hx hb dX2_measure_15 hl (by decide) rfl (fun ls hl => ?_)
        have hL_17 : ∀ (n_17 : Nat) (x3_4 : Int64) (x6_5 : Int32) (H : Heap) (locs : List Loc) (ls : Array Slot), wl (wbX2_measure_17 t_size t_cells t_swept p1 p2 x5_2 (wl (wbX2_measure_5 t_size t_cells t_swept p1 p2 k) n_5)) n_17 (x3_4, x6_5) → va_P D vwCl ([(q_t, .inr (2, [.ref q_t_cells, .ref q_t_swept, .int t_size, .int t_rank, .long t_lower])), (q_t_cells, .inl (cJ, 15, .inr (.inl t_cells))), (q_t_swept, .inl (cZ, 5, .inl t_swept)), (q_p1, .inl (cJ, 5, .inr (.inl p1))), (q_p2, .inl (cJ, 5, .inr (.inl p2)))]) H → va_D A ([(q_t, .inr (2, [.ref q_t_cells, .ref q_t_swept, .int t_size, .int t_rank, .long t_lower])), (q_t_cells, .inl (cJ, 15, .inr (.inl t_cells))), (q_t_swept, .inl (cZ, 5, .inl t_swept)), (q_p1, .inl (cJ, 5, .inr (.inl p1))), (q_p2, .inl (cJ, 5, .inr (.inl p2)))]) → va_S A s.heap H locs → lv_has ls 7 [(0, .ref q_t), (1, .ref q_p1), (2, .ref q_p2), (3, .long x3_4), (5, .int x5_2), (6, .int x6_5)] → W p l e rmX2_measure s m args below meth c H locs 0 0 Q (F0 m 17 ls []) := by
          intro n_17
          induction n_17 with
          | zero => intro x3_4 x6_5 H locs ls h; exact h.elim
          | succ n_17 ih_17 =>
            intro x3_4 x6_5 H locs ls h hP hD hS hl
            rw [wl, wbX2_measure_17] at h
            refine lv_iload hx hb dX2_measure_17 (lv_at hl 5 rfl) ?_
            refine lv_aload_n hx hb dX2_measure_19 rfl (lv_at hl 0 rfl) ?_
            refine va_get (v := .int t_size) hx hb hts iX2 hown hK hP 0 rfl rfl 2 (by decide) (hts _ mX2_measure_1) (fun _ h9 => h9) rfl dX2_measure_20 ?_
            obtain ⟨hp_6, hn_6⟩ := h
            refine lv_icmp_ge (tgt := 77) hx hb dX2_measure_23 (by decide) (fun hc => ?_) (fun hc => ?_)
            · have h := hp_6 hc
              refine lv_iinc (v := x5_2 + (1 : Int32)) (lv' := [(5, .int (x5_2 + (1 : Int32))), (0, .ref q_t), (1, .ref q_p1), (2, .ref q_p2), (3, .long x3_4), (6, .int x6_5)]) hx hb dX2_measure_77 hl (k := 4) rfl rfl (by decide) rfl (fun ls hl => ?_)
              refine lv_goto (tgt := 5) hx hb dX2_measure_80 (by decide) ?_
              exact ih_5 x3_4 (x5_2 + (1 : Int32)) _ _ _ h hP hD hS (lv_sub hl [1, 2, 3, 4, 0] rfl)
            · have h := hn_6 hc
              refine lv_aload_n hx hb dX2_measure_26 rfl (lv_at hl 0 rfl) ?_
              refine va_get (v := .ref q_t_swept) hx hb hts iX2 hown hK hP 0 rfl rfl 1 (by decide) (hts _ mX2_measure_2) (fun _ h9 => h9) rfl dX2_measure_27 ?_
              refine lv_iload hx hb dX2_measure_30 (lv_at hl 4 rfl) ?_
              obtain ⟨hi_7, h⟩ := h
              refine vz_ald hx hb hK hP 2 3 rfl rfl hi_7 rfl dX2_measure_32 ?_
              obtain ⟨hp_8, hn_8⟩ := h
              refine lv_if_eq (tgt := 71) hx hb dX2_measure_33 (by decide) (fun hc => ?_) (fun hc => ?_)
              · have h := hp_8 hc
                refine lv_iinc (v := x6_5 + (1 : Int32)) (lv' := [(6, .int (x6_5 + (1 : Int32))), (0, .ref q_t), (1, .ref q_p1), (2, .ref q_p2), (3, .long x3_4), (5, .int x5_2)]) hx hb dX2_measure_71 hl (k := 5) rfl rfl (by decide) rfl (fun ls hl => ?_)
                refine lv_goto (tgt := 17) hx hb dX2_measure_74 (by decide) ?_
                exact ih_17 x3_4 (x6_5 + (1 : Int32)) _ _ _ h hP hD hS (lv_sub hl [1, 2, 3, 4, 5, 0] rfl)
              · have h := hn_8 hc
                refine lv_aload_n hx hb dX2_measure_36 rfl (lv_at hl 0 rfl) ?_
                refine va_get (v := .ref q_t_swept) hx hb hts iX2 hown hK hP 0 rfl rfl 1 (by decide) (hts _ mX2_measure_2) (fun _ h9 => h9) rfl dX2_measure_37 ?_
                refine lv_iload hx hb dX2_measure_40 (lv_at hl 5 rfl) ?_
                obtain ⟨hi_9, h⟩ := h
                refine vz_ald hx hb hK hP 2 3 rfl rfl hi_9 rfl dX2_measure_42 ?_
                obtain ⟨hp_10, hn_10⟩ := h
                refine lv_if_eq (tgt := 71) hx hb dX2_measure_43 (by decide) (fun hc => ?_) (fun hc => ?_)
                · have h := hp_10 hc
                  refine lv_iinc (v := x6_5 + (1 : Int32)) (lv' := [(6, .int (x6_5 + (1 : Int32))), (0, .ref q_t), (1, .ref q_p1), (2, .ref q_p2), (3, .long x3_4), (5, .int x5_2)]) hx hb dX2_measure_71 hl (k := 5) rfl rfl (by decide) rfl (fun ls hl => ?_)
                  refine lv_goto (tgt := 17) hx hb dX2_measure_74 (by decide) ?_
                  exact ih_17 x3_4 (x6_5 + (1 : Int32)) _ _ _ h hP hD hS (lv_sub hl [1, 2, 3, 4, 5, 0] rfl)
                · have h := hn_10 hc
                  refine lv_lload_n hx hb dX2_measure_46 rfl (lv_at hl 3 rfl) ?_
                  refine lv_aload_n hx hb dX2_measure_47 rfl (lv_at hl 1 rfl) ?_
                  refine lv_iload hx hb dX2_measure_48 (lv_at hl 4 rfl) ?_
                  obtain ⟨hi_11, h⟩ := h
                  refine vl_ald hx hb hK hP 3 2 rfl rfl hi_11 rfl dX2_measure_50 ?_
                  refine lv_aload_n hx hb dX2_measure_51 rfl (lv_at hl 0 rfl) ?_
                  refine va_get (v := .ref q_t_cells) hx hb hts iX2 hown hK hP 0 rfl rfl 0 (by decide) (hts _ mX2_measure_3) (fun _ h9 => h9) rfl dX2_measure_52 ?_
                  refine lv_iload hx hb dX2_measure_55 (lv_at hl 4 rfl) ?_
                  refine lv_iload hx hb dX2_measure_57 (lv_at hl 5 rfl) ?_
                  refine vc_SI (As := [.int x5_2, .int x6_5]) (rest := [.ref q_t_cells, .long (p1 (x5_2.toNatClampNeg)), .long x3_4]) (wr := [(q_t, .inr (2, [.ref q_t_cells, .ref q_t_swept, .int t_size, .int t_rank, .long t_lower])), (q_t_cells, .inl (cJ, 15, .inr (.inl t_cells))), (q_t_swept, .inl (cZ, 5, .inl t_swept)), (q_p1, .inl (cJ, 5, .inr (.inl p1))), (q_p2, .inl (cJ, 5, .inr (.inl p2)))]) ⟨hx, hb, hml, hown, hts⟩ (ctX2_cellAt l D cB cI cJ cZ cR tz x5_2 x6_5 _ h) (va_cwS 2 hts gX2_measure_X2_cellAt rfl rfl rfl hdX2_cellAt.2 ⟨Nat.le_of_ble_eq_true rfl, Nat.le_of_ble_eq_true rfl⟩) hK hP hD hS hA hT [] [0, 1, 2, 3, 4] rfl rfl rfl rfl (by decide) rfl rfl hl.1 (Nat.le_of_ble_eq_true rfl) dX2_measure_59 ⟨Nat.le_of_ble_eq_true rfl, Nat.le_of_ble_eq_true rfl⟩ (fun r_12 u9 H locs h hP hD hS => ?_)
                  have hP : va_P D vwCl ([(q_t, .inr (2, [.ref q_t_cells, .ref q_t_swept, .int t_size, .int t_rank, .long t_lower])), (q_t_cells, .inl (cJ, 15, .inr (.inl t_cells))), (q_t_swept, .inl (cZ, 5, .inl t_swept)), (q_p1, .inl (cJ, 5, .inr (.inl p1))), (q_p2, .inl (cJ, 5, .inr (.inl p2)))]) H := hP.sub [0, 1, 2, 3, 4] rfl
                  have hD : va_D A ([(q_t, .inr (2, [.ref q_t_cells, .ref q_t_swept, .int t_size, .int t_rank, .long t_lower])), (q_t_cells, .inl (cJ, 15, .inr (.inl t_cells))), (q_t_swept, .inl (cZ, 5, .inl t_swept)), (q_p1, .inl (cJ, 5, .inr (.inl p1))), (q_p2, .inl (cJ, 5, .inr (.inl p2)))]) := hD.sub [0, 1, 2, 3, 4] rfl rfl
                  try dsimp only at h
                  obtain ⟨hi_13, h⟩ := h
                  refine vl_ald hx hb hK hP 1 2 rfl rfl hi_13 rfl dX2_measure_62 ?_
                  refine lv_lmul hx hb dX2_measure_63 ?_
                  refine lv_aload_n hx hb dX2_measure_64 rfl (lv_at hl 2 rfl) ?_
                  refine lv_iload hx hb dX2_measure_65 (lv_at hl 5 rfl) ?_
                  obtain ⟨hi_14, h⟩ := h
                  refine vl_ald hx hb hK hP 4 2 rfl rfl hi_14 rfl dX2_measure_67 ?_
                  refine lv_lmul hx hb dX2_measure_68 ?_
                  refine lv_lsub hx hb dX2_measure_69 ?_
                  refine lv_lstore_n (lv' := [(3, .long (x3_4 - (((p1 (x5_2.toNatClampNeg)) * (t_cells (r_12.toNatClampNeg))) * (p2 (x6_5.toNatClampNeg))))), (0, .ref q_t), (1, .ref q_p1), (2, .ref q_p2), (5, .int x5_2), (6, .int x6_5)]) hx hb dX2_measure_70 rfl hl (by decide) rfl (fun ls hl => ?_)
                  refine lv_iinc (v := x6_5 + (1 : Int32)) (lv' := [(6, .int (x6_5 + (1 : Int32))), (3, .long (x3_4 - (((p1 (x5_2.toNatClampNeg)) * (t_cells (r_12.toNatClampNeg))) * (p2 (x6_5.toNatClampNeg))))), (0, .ref q_t), (1, .ref q_p1), (2, .ref q_p2), (5, .int x5_2)]) hx hb dX2_measure_71 hl (k := 5) rfl rfl (by decide) rfl (fun ls hl => ?_)
                  refine lv_goto (tgt := 17) hx hb dX2_measure_74 (by decide) ?_
                  exact ih_17 (x3_4 - (((p1 (x5_2.toNatClampNeg)) * (t_cells (r_12.toNatClampNeg))) * (p2 (x6_5.toNatClampNeg)))) (x6_5 + (1 : Int32)) _ _ _ h hP hD hS (lv_sub hl [2, 3, 4, 1, 5, 0] rfl)
        obtain ⟨n_17, h⟩ := h
        exact hL_17 n_17 x3_1 (0 : Int32) _ _ _ h hP hD hS (lv_sub hl [1, 2, 3, 4, 5, 0] rfl)
  obtain ⟨n_5, h⟩ := h
  exact hL_5 n_5 (0 : Int64) (0 : Int32) _ _ _ h hP hD hS (lv_sub hl [2, 3, 4, 1, 0] rfl)
