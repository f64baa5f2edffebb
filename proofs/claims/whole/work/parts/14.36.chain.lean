theorem mX0_isAnswered_1 : Cond.fieldLink RX0 9 "TrialDesk$ChainSearch" "askedTimes" "[I" ∈ wsX0_isAnswered := List.mem_of_getElem? (i := 1) (by decide +kernel)
theorem mX0_isAnswered_2 : Cond.fieldLink RX0 53 "TrialDesk$ChainSearch" "asked" "Z" ∈ wsX0_isAnswered := List.mem_of_getElem? (i := 2) (by decide +kernel)
abbrev rmX0_isAnswered : Room := { frames := 0, cells := 0, slots := 0, locals := 0 }
set_option maxHeartbeats 4000000 in
set_option maxRecDepth 100000 in
theorem ctX0_isAnswered (l : Launch) (D : va_G) (cB cI cJ cZ cR : ClassId) (tz : Nat) (q_t : Nat) (q_t_askedTimes : Nat) (q_t_places : Nat) (q_t_stock : Nat) (q_t_step : Nat) (q_t_gaps : Nat) (q_t_fewest : Nat) (q_t_left : Nat) (q_t_open : Nat) (q_t_ahead : Nat) (q_t_chained : Nat) (q_p1 : Nat) (t_asked : Int32) (t_placeCount : Int32) (t_codes : Int32) (t_openCount : Int32) (t_changes : Int32) (t_askedTimes : (Nat → Int32)) (p1 : (Nat → Int32)) (k : Int32 → Prop) (h : wpX0_isAnswered t_askedTimes t_asked p1 k) : MI l yX0_isAnswered wsX0_isAnswered rmX0_isAnswered D (vTy cB cI cJ cZ cR) tz [.ref q_t, .ref q_p1] ([(q_t, .inr (0, [.ref q_t_askedTimes, .int t_asked, .ref q_t_places, .ref q_t_stock, .ref q_t_step, .ref q_t_gaps, .int t_placeCount, .int t_codes, .ref q_t_fewest, .ref q_t_left, .ref q_t_open, .ref q_t_ahead, .int t_openCount, .ref q_t_chained, .int t_changes])), (q_t_askedTimes, .inl (cI, 64, .inl t_askedTimes)), (q_p1, .inl (cI, 64, .inl p1))]) (fun (r : Int32) (u : Unit) => k r) (fun (u : Unit) => [(q_t, .inr (0, [.ref q_t_askedTimes, .int t_asked, .ref q_t_places, .ref q_t_stock, .ref q_t_step, .ref q_t_gaps, .int t_placeCount, .int t_codes, .ref q_t_fewest, .ref q_t_left, .ref q_t_open, .ref q_t_ahead, .int t_openCount, .ref q_t_chained, .int t_changes])), (q_t_askedTimes, .inl (cI, 64, .inl t_askedTimes)), (q_p1, .inl (cI, 64, .inl p1))]) 0 0 := by
  refine MI.of (cc := cX0_isAnswered) (maxL := 3) (ret := (some .boolean)) (by decide) rfl (Nat.le_of_ble_eq_true rfl) ?_
  intro p e s m args below meth c A ls Q hQ E
  obtain ⟨hx, hb, hml, hr, hts, hown, hlk, hin, hP, hK, hD, hS, hA, hT, hl⟩ := E
  have hown : s.vm.findClass RX0 = some m.cls := hown
  have hl : lv_has ls 3 [(0, .ref q_t), (1, .ref q_p1)] := hl
  have iX0 : ∀ w ∈ wsX00, w ∈ wsX0_isAnswered := fun _ h => List.mem_cons_of_mem _ (List.mem_append_right _ h)
  unfold wpX0_isAnswered at h
  refine lv_iconst (v := 0) hx hb dX0_isAnswered_0 (by decide) ?_
  refine lv_istore_n (lv' := [(2, .int (0 : Int32)), (0, .ref q_t), (1, .ref q_p1)]) hx hb dX0_isAnswered_1 rfl hl (by decide) rfl (fun ls hl => ?_)
  have hL_2 : ∀ (n_2 : Nat) (x2_1 : Int32) (H : Heap) (locs : List Loc) (ls : Array Slot), wl (wbX0_isAnswered_2 t_asked t_askedTimes p1 k) n_2 x2_1 → va_P D vwCl ([(q_t, .inr (0, [.ref q_t_askedTimes, .int t_asked, .ref q_t_places, .ref q_t_stock, .ref q_t_step, .ref q_t_gaps, .int t_placeCount, .int t_codes, .ref q_t_fewest, .ref q_t_left, .ref q_t_open, .ref q_t_ahead, .int t_openCount, .ref q_t_chained, .int t_changes])), (q_t_askedTimes, .inl (cI, 64, .inl t_askedTimes)), (q_p1, .inl (cI, 64, .inl p1))]) H → va_D A ([(q_t, .inr (0, [.ref q_t_askedTimes, .int t_asked, .ref q_t_places, .ref q_t_stock, .ref q_t_step, .ref q_t_gaps, .int t_placeCount, .int t_codes, .ref q_t_fewest, .ref q_t_left, .ref q_t_open, .ref q_t_ahead, .int t_openCount, .ref q_t_chained, .int t_changes])), (q_t_askedTimes, .inl (cI, 64, .inl t_askedTimes)), (q_p1, .inl (cI, 64, .inl p1))]) → va_S A s.heap H locs → lv_has ls 3 [(0, .ref q_t), (1, .ref q_p1), (2, .int x2_1)] → W p l e rmX0_isAnswered s m args below meth c H locs 0 0 Q (F0 m 2 ls []) := by
    intro n_2
    induction n_2 with
    | zero => intro x2_1 H locs ls h; exact h.elim
    | succ n_2 ih_2 =>
      intro x2_1 H locs ls h hP hD hS hl
      rw [wl, wbX0_isAnswered_2] at h
      refine lv_iload_n hx hb dX0_isAnswered_2 rfl (lv_at hl 2 rfl) ?_
      refine lv_bipush (v := 64) hx hb dX0_isAnswered_3 (by decide) ?_
      obtain ⟨hp_2, hn_2⟩ := h
      refine lv_icmp_ge (tgt := 28) hx hb dX0_isAnswered_5 (by decide) (fun hc => ?_) (fun hc => ?_)
      · have h := hp_2 hc
        refine lv_aload_n hx hb dX0_isAnswered_28 rfl (lv_at hl 0 rfl) ?_
        refine va_get (v := .int t_asked) hx hb hts iX0 hown hK hP 0 rfl rfl 1 (by decide) (hts _ mX0_isAnswered_2) (fun _ h9 => h9) rfl dX0_isAnswered_29 ?_
        obtain ⟨hz_3, h⟩ := h
        subst hQ
        exact vr_Z (v := t_asked) () hx hb hr hlk hz_3.1 hP hD hS [0, 1, 2] rfl rfl h dX0_isAnswered_32
      · have h := hn_2 hc
        refine lv_aload_n hx hb dX0_isAnswered_8 rfl (lv_at hl 1 rfl) ?_
        refine lv_iload_n hx hb dX0_isAnswered_9 rfl (lv_at hl 2 rfl) ?_
        obtain ⟨hi_4, h⟩ := h
        refine vi_ald hx hb hK hP 2 1 rfl rfl hi_4 rfl dX0_isAnswered_10 ?_
        refine lv_aload_n hx hb dX0_isAnswered_11 rfl (lv_at hl 0 rfl) ?_
        refine va_get (v := .ref q_t_askedTimes) hx hb hts iX0 hown hK hP 0 rfl rfl 0 (by decide) (hts _ mX0_isAnswered_1) (fun _ h9 => h9) rfl dX0_isAnswered_12 ?_
        refine lv_iload_n hx hb dX0_isAnswered_15 rfl (lv_at hl 2 rfl) ?_
        obtain ⟨hi_5, h⟩ := h
        refine vi_ald hx hb hK hP 1 1 rfl rfl hi_5 rfl dX0_isAnswered_16 ?_
        obtain ⟨hp_6, hn_6⟩ := h
        refine lv_icmp_eq (tgt := 22) hx hb dX0_isAnswered_17 (by decide) (fun hc => ?_) (fun hc => ?_)
        · have h := hp_6 hc
          refine lv_iinc (v := x2_1 + (1 : Int32)) (lv' := [(2, .int (x2_1 + (1 : Int32))), (0, .ref q_t), (1, .ref q_p1)]) hx hb dX0_isAnswered_22 hl (k := 2) rfl rfl (by decide) rfl (fun ls hl => ?_)
          refine lv_goto (tgt := 2) hx hb dX0_isAnswered_25 (by decide) ?_
          exact ih_2 (x2_1 + (1 : Int32)) _ _ _ h hP hD hS (lv_sub hl [1, 2, 0] rfl)
        · have h := hn_6 hc
          refine lv_iconst (v := 0) hx hb dX0_isAnswered_20 (by decide) ?_
          subst hQ
          exact vr_Z (v := (0 : Int32)) () hx hb hr hlk rfl hP hD hS [0, 1, 2] rfl rfl h dX0_isAnswered_21
  obtain ⟨n_2, h⟩ := h
  exact hL_2 n_2 (0 : Int32) _ _ _ h hP hD hS (lv_sub hl [1, 2, 0] rfl)
theorem mX0_gatherPlaces_1 : Cond.fieldLink RX0 67 "TrialDesk$ChainSearch" "placeCount" "I" ∈ wsX0_gatherPlaces := List.mem_of_getElem? (i := 1) (by decide +kernel)
theorem mX0_gatherPlaces_2 : Cond.fieldLink RX0 63 "TrialDesk$ChainSearch" "codes" "I" ∈ wsX0_gatherPlaces := List.mem_of_getElem? (i := 2) (by decide +kernel)
theorem mX0_gatherPlaces_3 : Cond.fieldLink RX0 9 "TrialDesk$ChainSearch" "askedTimes" "[I" ∈ wsX0_gatherPlaces := List.mem_of_getElem? (i := 3) (by decide +kernel)
theorem mX0_gatherPlaces_4 : Cond.fieldLink RX0 15 "TrialDesk$ChainSearch" "places" "[I" ∈ wsX0_gatherPlaces := List.mem_of_getElem? (i := 4) (by decide +kernel)
theorem mX0_gatherPlaces_5 : Cond.fieldLink RX0 18 "TrialDesk$ChainSearch" "stock" "[I" ∈ wsX0_gatherPlaces := List.mem_of_getElem? (i := 5) (by decide +kernel)
theorem mX0_gatherPlaces_6 : Cond.fieldLink RX0 21 "TrialDesk$ChainSearch" "step" "[I" ∈ wsX0_gatherPlaces := List.mem_of_getElem? (i := 6) (by decide +kernel)
abbrev rmX0_gatherPlaces : Room := { frames := 0, cells := 0, slots := 0, locals := 0 }
set_option maxHeartbeats 4000000 in
set_option maxRecDepth 100000 in
theorem ctX0_gatherPlaces (l : Launch) (D : va_G) (cB cI cJ cZ cR : ClassId) (tz : Nat) (q_t : Nat) (q_t_askedTimes : Nat) (q_t_places : Nat) (q_t_stock : Nat) (q_t_step : Nat) (q_t_gaps : Nat) (q_t_fewest : Nat) (q_t_left : Nat) (q_t_open : Nat) (q_t_ahead : Nat) (q_t_chained : Nat) (t_asked : Int32) (t_placeCount : Int32) (t_codes : Int32) (t_openCount : Int32) (t_changes : Int32) (t_askedTimes : (Nat → Int32)) (t_places : (Nat → Int32)) (t_stock : (Nat → Int32)) (t_step : (Nat → Int32)) (k : (Nat → Int32) → (Nat → Int32) → (Nat → Int32) → Int32 → Int32 → Prop) (h : wpX0_gatherPlaces t_askedTimes t_places t_stock t_step t_placeCount t_codes k) : MV l yX0_gatherPlaces wsX0_gatherPlaces rmX0_gatherPlaces D (vTy cB cI cJ cZ cR) tz [.ref q_t] ([(q_t, .inr (0, [.ref q_t_askedTimes, .int t_asked, .ref q_t_places, .ref q_t_stock, .ref q_t_step, .ref q_t_gaps, .int t_placeCount, .int t_codes, .ref q_t_fewest, .ref q_t_left, .ref q_t_open, .ref q_t_ahead, .int t_openCount, .ref q_t_chained, .int t_changes])), (q_t_askedTimes, .inl (cI, 64, .inl t_askedTimes)), (q_t_places, .inl (cI, 12, .inl t_places)), (q_t_stock, .inl (cI, 12, .inl t_stock)), (q_t_step, .inl (cI, 12, .inl t_step))]) (fun (u : (Nat → Int32) × (Nat → Int32) × (Nat → Int32) × Int32 × Int32) => k u.1 u.2.1 u.2.2.1 u.2.2.2.1 u.2.2.2.2) (fun (u : (Nat → Int32) × (Nat → Int32) × (Nat → Int32) × Int32 × Int32) => [(q_t, .inr (0, [.ref q_t_askedTimes, .int t_asked, .ref q_t_places, .ref q_t_stock, .ref q_t_step, .ref q_t_gaps, .int (u.2.2.2.1), .int (u.2.2.2.2), .ref q_t_fewest, .ref q_t_left, .ref q_t_open, .ref q_t_ahead, .int t_openCount, .ref q_t_chained, .int t_changes])), (q_t_askedTimes, .inl (cI, 64, .inl t_askedTimes)), (q_t_places, .inl (cI, 12, .inl (u.1))), (q_t_stock, .inl (cI, 12, .inl (u.2.1))), (q_t_step, .inl (cI, 12, .inl (u.2.2.1)))]) 0 0 := by
  refine MV.of (cc := cX0_gatherPlaces) (maxL := 2) (ret := none) (by decide) rfl (Nat.le_of_ble_eq_true rfl) ?_
  intro p e s m args below meth c A ls Q hQ E
  obtain ⟨hx, hb, hml, hr, hts, hown, hlk, hin, hP, hK, hD, hS, hA, hT, hl⟩ := E
  have hown : s.vm.findClass RX0 = some m.cls := hown
  have hl : lv_has ls 2 [(0, .ref q_t)] := hl
  have iX0 : ∀ w ∈ wsX00, w ∈ wsX0_gatherPlaces := fun _ h => List.mem_cons_of_mem _ (List.mem_append_right _ h)
  unfold wpX0_gatherPlaces at h
  refine lv_aload_n hx hb dX0_gatherPlaces_0 rfl (lv_at hl 0 rfl) ?_
  refine lv_iconst (v := 0) hx hb dX0_gatherPlaces_1 (by decide) ?_
  refine va_put (v := .int (0 : Int32)) (ty := .int) hx hb hts iX0 tyX0 tyX0_ok nmX0 hown hK hP hD hS 0 rfl rfl 6 (by decide) (hts _ mX0_gatherPlaces_1) (fun _ h9 => h9) rfl (tyX0_ok 6 (by decide)) rfl rfl (Nat.le_of_ble_eq_true rfl) dX0_gatherPlaces_2 (fun H locs hP hD hS => ?_)
  have hP : va_P D vwCl ([(q_t, .inr (0, [.ref q_t_askedTimes, .int t_asked, .ref q_t_places, .ref q_t_stock, .ref q_t_step, .ref q_t_gaps, .int (0 : Int32), .int t_codes, .ref q_t_fewest, .ref q_t_left, .ref q_t_open, .ref q_t_ahead, .int t_openCount, .ref q_t_chained, .int t_changes])), (q_t_askedTimes, .inl (cI, 64, .inl t_askedTimes)), (q_t_places, .inl (cI, 12, .inl t_places)), (q_t_stock, .inl (cI, 12, .inl t_stock)), (q_t_step, .inl (cI, 12, .inl t_step))]) H := hP
  have hD : va_D A ([(q_t, .inr (0, [.ref q_t_askedTimes, .int t_asked, .ref q_t_places, .ref q_t_stock, .ref q_t_step, .ref q_t_gaps, .int (0 : Int32), .int t_codes, .ref q_t_fewest, .ref q_t_left, .ref q_t_open, .ref q_t_ahead, .int t_openCount, .ref q_t_chained, .int t_changes])), (q_t_askedTimes, .inl (cI, 64, .inl t_askedTimes)), (q_t_places, .inl (cI, 12, .inl t_places)), (q_t_stock, .inl (cI, 12, .inl t_stock)), (q_t_step, .inl (cI, 12, .inl t_step))]) := hD
  refine lv_aload_n hx hb dX0_gatherPlaces_5 rfl (lv_at hl 0 rfl) ?_
  refine lv_iconst (v := 1) hx hb dX0_gatherPlaces_6 (by decide) ?_
  refine va_put (v := .int (1 : Int32)) (ty := .int) hx hb hts iX0 tyX0 tyX0_ok nmX0 hown hK hP hD hS 0 rfl rfl 7 (by decide) (hts _ mX0_gatherPlaces_2) (fun _ h9 => h9) rfl (tyX0_ok 7 (by decide)) rfl rfl (Nat.le_of_ble_eq_true rfl) dX0_gatherPlaces_7 (fun H locs hP hD hS => ?_)
  have hP : va_P D vwCl ([(q_t, .inr (0, [.ref q_t_askedTimes, .int t_asked, .ref q_t_places, .ref q_t_stock, .ref q_t_step, .ref q_t_gaps, .int (0 : Int32), .int (1 : Int32), .ref q_t_fewest, .ref q_t_left, .ref q_t_open, .ref q_t_ahead, .int t_openCount, .ref q_t_chained, .int t_changes])), (q_t_askedTimes, .inl (cI, 64, .inl t_askedTimes)), (q_t_places, .inl (cI, 12, .inl t_places)), (q_t_stock, .inl (cI, 12, .inl t_stock)), (q_t_step, .inl (cI, 12, .inl t_step))]) H := hP
  have hD : va_D A ([(q_t, .inr (0, [.ref q_t_askedTimes, .int t_asked, .ref q_t_places, .ref q_t_stock, .ref q_t_step, .ref q_t_gaps, .int (0 : Int32), .int (1 : Int32), .ref q_t_fewest, .ref q_t_left, .ref q_t_open, .ref q_t_ahead, .int t_openCount, .ref q_t_chained, .int t_changes])), (q_t_askedTimes, .inl (cI, 64, .inl t_askedTimes)), (q_t_places, .inl (cI, 12, .inl t_places)), (q_t_stock, .inl (cI, 12, .inl t_stock)), (q_t_step, .inl (cI, 12, .inl t_step))]) := hD
  refine lv_iconst (v := 0) hx hb dX0_gatherPlaces_10 (by decide) ?_
  refine lv_istore_n (lv' := [(1, .int (0 : Int32)), (0, .ref q_t)]) hx hb dX0_gatherPlaces_11 rfl hl (by decide) rfl (fun ls hl => ?_)
  have hL_12 : ∀ (n_12 : Nat) (x1_1 : Int32) (t_places_2 : (Nat → Int32)) (t_stock_3 : (Nat → Int32)) (t_step_4 : (Nat → Int32)) (t_placeCount_5 : Int32) (t_codes_6 : Int32) (H : Heap) (locs : List Loc) (ls : Array Slot), wl (wbX0_gatherPlaces_12 t_askedTimes k) n_12 (x1_1, t_places_2, t_stock_3, t_step_4, t_placeCount_5, t_codes_6) → va_P D vwCl ([(q_t, .inr (0, [.ref q_t_askedTimes, .int t_asked, .ref q_t_places, .ref q_t_stock, .ref q_t_step, .ref q_t_gaps, .int t_placeCount_5, .int t_codes_6, .ref q_t_fewest, .ref q_t_left, .ref q_t_open, .ref q_t_ahead, .int t_openCount, .ref q_t_chained, .int t_changes])), (q_t_askedTimes, .inl (cI, 64, .inl t_askedTimes)), (q_t_places, .inl (cI, 12, .inl t_places_2)), (q_t_stock, .inl (cI, 12, .inl t_stock_3)), (q_t_step, .inl (cI, 12, .inl t_step_4))]) H → va_D A ([(q_t, .inr (0, [.ref q_t_askedTimes, .int t_asked, .ref q_t_places, .ref q_t_stock, .ref q_t_step, .ref q_t_gaps, .int t_placeCount_5, .int t_codes_6, .ref q_t_fewest, .ref q_t_left, .ref q_t_open, .ref q_t_ahead, .int t_openCount, .ref q_t_chained, .int t_changes])), (q_t_askedTimes, .inl (cI, 64, .inl t_askedTimes)), (q_t_places, .inl (cI, 12, .inl t_places_2)), (q_t_stock, .inl (cI, 12, .inl t_stock_3)), (q_t_step, .inl (cI, 12, .inl t_step_4))]) → va_S A s.heap H locs → lv_has ls 2 [(0, .ref q_t), (1, .int x1_1)] → W p l e rmX0_gatherPlaces s m args below meth c H locs 0 0 Q (F0 m 12 ls []) := by
    intro n_12
    induction n_12 with
    | zero => intro x1_1 t_places_2 t_stock_3 t_step_4 t_placeCount_5 t_codes_6 H locs ls h; exact h.elim
    | succ n_12 ih_12 =>
      intro x1_1 t_places_2 t_stock_3 t_step_4 t_placeCount_5 t_codes_6 H locs ls h hP hD hS hl
      rw [wl, wbX0_gatherPlaces_12] at h
      refine lv_iload_n hx hb dX0_gatherPlaces_12 rfl (lv_at hl 1 rfl) ?_
      refine lv_bipush (v := 64) hx hb dX0_gatherPlaces_13 (by decide) ?_
      obtain ⟨hp_7, hn_7⟩ := h
      refine lv_icmp_ge (tgt := 107) hx hb dX0_gatherPlaces_15 (by decide) (fun hc => ?_) (fun hc => ?_)
      · have h := hp_7 hc
        subst hQ
        exact vr_V (t_places_2, t_stock_3, t_step_4, t_placeCount_5, t_codes_6) hx hb hr hlk hP hD hS [0, 1, 2, 3, 4] rfl rfl h dX0_gatherPlaces_107
      · have h := hn_7 hc
        refine lv_aload_n hx hb dX0_gatherPlaces_18 rfl (lv_at hl 0 rfl) ?_
        refine va_get (v := .int t_placeCount_5) hx hb hts iX0 hown hK hP 0 rfl rfl 6 (by decide) (hts _ mX0_gatherPlaces_1) (fun _ h9 => h9) rfl dX0_gatherPlaces_19 ?_
        refine lv_bipush (v := 12) hx hb dX0_gatherPlaces_22 (by decide) ?_
        obtain ⟨hp_8, hn_8⟩ := h
        refine lv_icmp_ge (tgt := 107) hx hb dX0_gatherPlaces_24 (by decide) (fun hc => ?_) (fun hc => ?_)
        · have h := hp_8 hc
          subst hQ
          exact vr_V (t_places_2, t_stock_3, t_step_4, t_placeCount_5, t_codes_6) hx hb hr hlk hP hD hS [0, 1, 2, 3, 4] rfl rfl h dX0_gatherPlaces_107
        · have h := hn_8 hc
          refine lv_aload_n hx hb dX0_gatherPlaces_27 rfl (lv_at hl 0 rfl) ?_
          refine va_get (v := .ref q_t_askedTimes) hx hb hts iX0 hown hK hP 0 rfl rfl 0 (by decide) (hts _ mX0_gatherPlaces_3) (fun _ h9 => h9) rfl dX0_gatherPlaces_28 ?_
          refine lv_iload_n hx hb dX0_gatherPlaces_31 rfl (lv_at hl 1 rfl) ?_
          obtain ⟨hi_9, h⟩ := h
          refine vi_ald hx hb hK hP 1 1 rfl rfl hi_9 rfl dX0_gatherPlaces_32 ?_
          obtain ⟨hp_10, hn_10⟩ := h
          refine lv_if_le (tgt := 101) hx hb dX0_gatherPlaces_33 (by decide) (fun hc => ?_) (fun hc => ?_)
          · have h := hp_10 hc
            refine lv_iinc (v := x1_1 + (1 : Int32)) (lv' := [(1, .int (x1_1 + (1 : Int32))), (0, .ref q_t)]) hx hb dX0_gatherPlaces_101 hl (k := 1) rfl rfl (by decide) rfl (fun ls hl => ?_)
            refine lv_goto (tgt := 12) hx hb dX0_gatherPlaces_104 (by decide) ?_
            exact ih_12 (x1_1 + (1 : Int32)) t_places_2 t_stock_3 t_step_4 t_placeCount_5 t_codes_6 _ _ _ h hP hD hS (lv_sub hl [1, 0] rfl)
          · have h := hn_10 hc
            refine lv_aload_n hx hb dX0_gatherPlaces_36 rfl (lv_at hl 0 rfl) ?_
            refine va_get (v := .ref q_t_places) hx hb hts iX0 hown hK hP 0 rfl rfl 2 (by decide) (hts _ mX0_gatherPlaces_4) (fun _ h9 => h9) rfl dX0_gatherPlaces_37 ?_
            refine lv_aload_n hx hb dX0_gatherPlaces_40 rfl (lv_at hl 0 rfl) ?_
            refine va_get (v := .int t_placeCount_5) hx hb hts iX0 hown hK hP 0 rfl rfl 6 (by decide) (hts _ mX0_gatherPlaces_1) (fun _ h9 => h9) rfl dX0_gatherPlaces_41 ?_
            refine lv_iload_n hx hb dX0_gatherPlaces_44 rfl (lv_at hl 1 rfl) ?_
            obtain ⟨hi_11, h⟩ := h
            refine vi_ast (x := x1_1) hx hb hK hP hD hS 2 1 rfl rfl hi_11 rfl dX0_gatherPlaces_45 (fun H locs hP hD hS => ?_)
            have hP : va_P D vwCl ([(q_t, .inr (0, [.ref q_t_askedTimes, .int t_asked, .ref q_t_places, .ref q_t_stock, .ref q_t_step, .ref q_t_gaps, .int t_placeCount_5, .int t_codes_6, .ref q_t_fewest, .ref q_t_left, .ref q_t_open, .ref q_t_ahead, .int t_openCount, .ref q_t_chained, .int t_changes])), (q_t_askedTimes, .inl (cI, 64, .inl t_askedTimes)), (q_t_places, .inl (cI, 12, .inl (upd t_places_2 (t_placeCount_5.toNatClampNeg) x1_1))), (q_t_stock, .inl (cI, 12, .inl t_stock_3)), (q_t_step, .inl (cI, 12, .inl t_step_4))]) H := hP
            have hD : va_D A ([(q_t, .inr (0, [.ref q_t_askedTimes, .int t_asked, .ref q_t_places, .ref q_t_stock, .ref q_t_step, .ref q_t_gaps, .int t_placeCount_5, .int t_codes_6, .ref q_t_fewest, .ref q_t_left, .ref q_t_open, .ref q_t_ahead, .int t_openCount, .ref q_t_chained, .int t_changes])), (q_t_askedTimes, .inl (cI, 64, .inl t_askedTimes)), (q_t_places, .inl (cI, 12, .inl (upd t_places_2 (t_placeCount_5.toNatClampNeg) x1_1))), (q_t_stock, .inl (cI, 12, .inl t_stock_3)), (q_t_step, .inl (cI, 12, .inl t_step_4))]) := hD
            refine lv_aload_n hx hb dX0_gatherPlaces_46 rfl (lv_at hl 0 rfl) ?_
            refine va_get (v := .ref q_t_stock) hx hb hts iX0 hown hK hP 0 rfl rfl 3 (by decide) (hts _ mX0_gatherPlaces_5) (fun _ h9 => h9) rfl dX0_gatherPlaces_47 ?_
            refine lv_aload_n hx hb dX0_gatherPlaces_50 rfl (lv_at hl 0 rfl) ?_
            refine va_get (v := .int t_placeCount_5) hx hb hts iX0 hown hK hP 0 rfl rfl 6 (by decide) (hts _ mX0_gatherPlaces_1) (fun _ h9 => h9) rfl dX0_gatherPlaces_51 ?_
            refine lv_aload_n hx hb dX0_gatherPlaces_54 rfl (lv_at hl 0 rfl) ?_
            refine va_get (v := .ref q_t_askedTimes) hx hb hts iX0 hown hK hP 0 rfl rfl 0 (by decide) (hts _ mX0_gatherPlaces_3) (fun _ h9 => h9) rfl dX0_gatherPlaces_55 ?_
            refine lv_iload_n hx hb dX0_gatherPlaces_58 rfl (lv_at hl 1 rfl) ?_
            obtain ⟨hi_12, h⟩ := h
            refine vi_ald hx hb hK hP 1 1 rfl rfl hi_12 rfl dX0_gatherPlaces_59 ?_
            obtain ⟨hi_13, h⟩ := h
            refine vi_ast (x := t_askedTimes (x1_1.toNatClampNeg)) hx hb hK hP hD hS 3 1 rfl rfl hi_13 rfl dX0_gatherPlaces_60 (fun H locs hP hD hS => ?_)
            have hP : va_P D vwCl ([(q_t, .inr (0, [.ref q_t_askedTimes, .int t_asked, .ref q_t_places, .ref q_t_stock, .ref q_t_step, .ref q_t_gaps, .int t_placeCount_5, .int t_codes_6, .ref q_t_fewest, .ref q_t_left, .ref q_t_open, .ref q_t_ahead, .int t_openCount, .ref q_t_chained, .int t_changes])), (q_t_askedTimes, .inl (cI, 64, .inl t_askedTimes)), (q_t_places, .inl (cI, 12, .inl (upd t_places_2 (t_placeCount_5.toNatClampNeg) x1_1))), (q_t_stock, .inl (cI, 12, .inl (upd t_stock_3 (t_placeCount_5.toNatClampNeg) (t_askedTimes (x1_1.toNatClampNeg))))), (q_t_step, .inl (cI, 12, .inl t_step_4))]) H := hP
            have hD : va_D A ([(q_t, .inr (0, [.ref q_t_askedTimes, .int t_asked, .ref q_t_places, .ref q_t_stock, .ref q_t_step, .ref q_t_gaps, .int t_placeCount_5, .int t_codes_6, .ref q_t_fewest, .ref q_t_left, .ref q_t_open, .ref q_t_ahead, .int t_openCount, .ref q_t_chained, .int t_changes])), (q_t_askedTimes, .inl (cI, 64, .inl t_askedTimes)), (q_t_places, .inl (cI, 12, .inl (upd t_places_2 (t_placeCount_5.toNatClampNeg) x1_1))), (q_t_stock, .inl (cI, 12, .inl (upd t_stock_3 (t_placeCount_5.toNatClampNeg) (t_askedTimes (x1_1.toNatClampNeg))))), (q_t_step, .inl (cI, 12, .inl t_step_4))]) := hD
            refine lv_aload_n hx hb dX0_gatherPlaces_61 rfl (lv_at hl 0 rfl) ?_
            refine va_get (v := .ref q_t_step) hx hb hts iX0 hown hK hP 0 rfl rfl 4 (by decide) (hts _ mX0_gatherPlaces_6) (fun _ h9 => h9) rfl dX0_gatherPlaces_62 ?_
            refine lv_aload_n hx hb dX0_gatherPlaces_65 rfl (lv_at hl 0 rfl) ?_
            refine va_get (v := .int t_placeCount_5) hx hb hts iX0 hown hK hP 0 rfl rfl 6 (by decide) (hts _ mX0_gatherPlaces_1) (fun _ h9 => h9) rfl dX0_gatherPlaces_66 ?_
            refine lv_aload_n hx hb dX0_gatherPlaces_69 rfl (lv_at hl 0 rfl) ?_
            refine va_get (v := .int t_codes_6) hx hb hts iX0 hown hK hP 0 rfl rfl 7 (by decide) (hts _ mX0_gatherPlaces_2) (fun _ h9 => h9) rfl dX0_gatherPlaces_70 ?_
            obtain ⟨hi_14, h⟩ := h
            refine vi_ast (x := t_codes_6) hx hb hK hP hD hS 4 1 rfl rfl hi_14 rfl dX0_gatherPlaces_73 (fun H locs hP hD hS => ?_)
            have hP : va_P D vwCl ([(q_t, .inr (0, [.ref q_t_askedTimes, .int t_asked, .ref q_t_places, .ref q_t_stock, .ref q_t_step, .ref q_t_gaps, .int t_placeCount_5, .int t_codes_6, .ref q_t_fewest, .ref q_t_left, .ref q_t_open, .ref q_t_ahead, .int t_openCount, .ref q_t_chained, .int t_changes])), (q_t_askedTimes, .inl (cI, 64, .inl t_askedTimes)), (q_t_places, .inl (cI, 12, .inl (upd t_places_2 (t_placeCount_5.toNatClampNeg) x1_1))), (q_t_stock, .inl (cI, 12, .inl (upd t_stock_3 (t_placeCount_5.toNatClampNeg) (t_askedTimes (x1_1.toNatClampNeg))))), (q_t_step, .inl (cI, 12, .inl (upd t_step_4 (t_placeCount_5.toNatClampNeg) t_codes_6)))]) H := hP
            have hD : va_D A ([(q_t, .inr (0, [.ref q_t_askedTimes, .int t_asked, .ref q_t_places, .ref q_t_stock, .ref q_t_step, .ref q_t_gaps, .int t_placeCount_5, .int t_codes_6, .ref q_t_fewest, .ref q_t_left, .ref q_t_open, .ref q_t_ahead, .int t_openCount, .ref q_t_chained, .int t_changes])), (q_t_askedTimes, .inl (cI, 64, .inl t_askedTimes)), (q_t_places, .inl (cI, 12, .inl (upd t_places_2 (t_placeCount_5.toNatClampNeg) x1_1))), (q_t_stock, .inl (cI, 12, .inl (upd t_stock_3 (t_placeCount_5.toNatClampNeg) (t_askedTimes (x1_1.toNatClampNeg))))), (q_t_step, .inl (cI, 12, .inl (upd t_step_4 (t_placeCount_5.toNatClampNeg) t_codes_6)))]) := hD
            refine lv_aload_n hx hb dX0_gatherPlaces_74 rfl (lv_at hl 0 rfl) ?_
            refine lv_dup hx hb dX0_gatherPlaces_75 rfl ?_
            refine va_get (v := .int t_codes_6) hx hb hts iX0 hown hK hP 0 rfl rfl 7 (by decide) (hts _ mX0_gatherPlaces_2) (fun _ h9 => h9) rfl dX0_gatherPlaces_76 ?_
            refine lv_aload_n hx hb dX0_gatherPlaces_79 rfl (lv_at hl 0 rfl) ?_
            refine va_get (v := .ref q_t_askedTimes) hx hb hts iX0 hown hK hP 0 rfl rfl 0 (by decide) (hts _ mX0_gatherPlaces_3) (fun _ h9 => h9) rfl dX0_gatherPlaces_80 ?_
            refine lv_iload_n hx hb dX0_gatherPlaces_83 rfl (lv_at hl 1 rfl) ?_
            obtain ⟨hi_15, h⟩ := h
            refine vi_ald hx hb hK hP 1 1 rfl rfl hi_15 rfl dX0_gatherPlaces_84 ?_
            refine lv_iconst (v := 1) hx hb dX0_gatherPlaces_85 (by decide) ?_
            refine lv_iadd hx hb dX0_gatherPlaces_86 ?_
            refine lv_imul hx hb dX0_gatherPlaces_87 ?_
            refine va_put (v := .int (t_codes_6 * ((t_askedTimes (x1_1.toNatClampNeg)) + (1 : Int32)))) (ty := .int) hx hb hts iX0 tyX0 tyX0_ok nmX0 hown hK hP hD hS 0 rfl rfl 7 (by decide) (hts _ mX0_gatherPlaces_2) (fun _ h9 => h9) rfl (tyX0_ok 7 (by decide)) rfl rfl (Nat.le_of_ble_eq_true rfl) dX0_gatherPlaces_88 (fun H locs hP hD hS => ?_)
            have hP : va_P D vwCl ([(q_t, .inr (0, [.ref q_t_askedTimes, .int t_asked, .ref q_t_places, .ref q_t_stock, .ref q_t_step, .ref q_t_gaps, .int t_placeCount_5, .int (t_codes_6 * ((t_askedTimes (x1_1.toNatClampNeg)) + (1 : Int32))), .ref q_t_fewest, .ref q_t_left, .ref q_t_open, .ref q_t_ahead, .int t_openCount, .ref q_t_chained, .int t_changes])), (q_t_askedTimes, .inl (cI, 64, .inl t_askedTimes)), (q_t_places, .inl (cI, 12, .inl (upd t_places_2 (t_placeCount_5.toNatClampNeg) x1_1))), (q_t_stock, .inl (cI, 12, .inl (upd t_stock_3 (t_placeCount_5.toNatClampNeg) (t_askedTimes (x1_1.toNatClampNeg))))), (q_t_step, .inl (cI, 12, .inl (upd t_step_4 (t_placeCount_5.toNatClampNeg) t_codes_6)))]) H := hP
            have hD : va_D A ([(q_t, .inr (0, [.ref q_t_askedTimes, .int t_asked, .ref q_t_places, .ref q_t_stock, .ref q_t_step, .ref q_t_gaps, .int t_placeCount_5, .int (t_codes_6 * ((t_askedTimes (x1_1.toNatClampNeg)) + (1 : Int32))), .ref q_t_fewest, .ref q_t_left, .ref q_t_open, .ref q_t_ahead, .int t_openCount, .ref q_t_chained, .int t_changes])), (q_t_askedTimes, .inl (cI, 64, .inl t_askedTimes)), (q_t_places, .inl (cI, 12, .inl (upd t_places_2 (t_placeCount_5.toNatClampNeg) x1_1))), (q_t_stock, .inl (cI, 12, .inl (upd t_stock_3 (t_placeCount_5.toNatClampNeg) (t_askedTimes (x1_1.toNatClampNeg))))), (q_t_step, .inl (cI, 12, .inl (upd t_step_4 (t_placeCount_5.toNatClampNeg) t_codes_6)))]) := hD
            refine lv_aload_n hx hb dX0_gatherPlaces_91 rfl (lv_at hl 0 rfl) ?_
            refine lv_dup hx hb dX0_gatherPlaces_92 rfl ?_
            refine va_get (v := .int t_placeCount_5) hx hb hts iX0 hown hK hP 0 rfl rfl 6 (by decide) (hts _ mX0_gatherPlaces_1) (fun _ h9 => h9) rfl dX0_gatherPlaces_93 ?_
            refine lv_iconst (v := 1) hx hb dX0_gatherPlaces_96 (by decide) ?_
            refine lv_iadd hx hb dX0_gatherPlaces_97 ?_
            refine va_put (v := .int (t_placeCount_5 + (1 : Int32))) (ty := .int) hx hb hts iX0 tyX0 tyX0_ok nmX0 hown hK hP hD hS 0 rfl rfl 6 (by decide) (hts _ mX0_gatherPlaces_1) (fun _ h9 => h9) rfl (tyX0_ok 6 (by decide)) rfl rfl (Nat.le_of_ble_eq_true rfl) dX0_gatherPlaces_98 (fun H locs hP hD hS => ?_)
            have hP : va_P D vwCl ([(q_t, .inr (0, [.ref q_t_askedTimes, .int t_asked, .ref q_t_places, .ref q_t_stock, .ref q_t_step, .ref q_t_gaps, .int (t_placeCount_5 + (1 : Int32)), .int (t_codes_6 * ((t_askedTimes (x1_1.toNatClampNeg)) + (1 : Int32))), .ref q_t_fewest, .ref q_t_left, .ref q_t_open, .ref q_t_ahead, .int t_openCount, .ref q_t_chained, .int t_changes])), (q_t_askedTimes, .inl (cI, 64, .inl t_askedTimes)), (q_t_places, .inl (cI, 12, .inl (upd t_places_2 (t_placeCount_5.toNatClampNeg) x1_1))), (q_t_stock, .inl (cI, 12, .inl (upd t_stock_3 (t_placeCount_5.toNatClampNeg) (t_askedTimes (x1_1.toNatClampNeg))))), (q_t_step, .inl (cI, 12, .inl (upd t_step_4 (t_placeCount_5.toNatClampNeg) t_codes_6)))]) H := hP
            have hD : va_D A ([(q_t, .inr (0, [.ref q_t_askedTimes, .int t_asked, .ref q_t_places, .ref q_t_stock, .ref q_t_step, .ref q_t_gaps, .int (t_placeCount_5 + (1 : Int32)), .int (t_codes_6 * ((t_askedTimes (x1_1.toNatClampNeg)) + (1 : Int32))), .ref q_t_fewest, .ref q_t_left, .ref q_t_open, .ref q_t_ahead, .int t_openCount, .ref q_t_chained, .int t_changes])), (q_t_askedTimes, .inl (cI, 64, .inl t_askedTimes)), (q_t_places, .inl (cI, 12, .inl (upd t_places_2 (t_placeCount_5.toNatClampNeg) x1_1))), (q_t_stock, .inl (cI, 12, .inl (upd t_stock_3 (t_placeCount_5.toNatClampNeg) (t_askedTimes (x1_1.toNatClampNeg))))), (q_t_step, .inl (cI, 12, .inl (upd t_step_4 (t_placeCount_5.toNatClampNeg) t_codes_6)))]) := hD
            refine lv_iinc (v := x1_1 + (1 : Int32)) (lv' := [(1, .int (x1_1 + (1 : Int32))), (0, .ref q_t)]) hx hb dX0_gatherPlaces_101 hl (k := 1) rfl rfl (by decide) rfl (fun ls hl => ?_)
            refine lv_goto (tgt := 12) hx hb dX0_gatherPlaces_104 (by decide) ?_
            exact ih_12 (x1_1 + (1 : Int32)) (upd t_places_2 (t_placeCount_5.toNatClampNeg) x1_1) (upd t_stock_3 (t_placeCount_5.toNatClampNeg) (t_askedTimes (x1_1.toNatClampNeg))) (upd t_step_4 (t_placeCount_5.toNatClampNeg) t_codes_6) (t_placeCount_5 + (1 : Int32)) (t_codes_6 * ((t_askedTimes (x1_1.toNatClampNeg)) + (1 : Int32))) _ _ _ h hP hD hS (lv_sub hl [1, 0] rfl)
  obtain ⟨n_12, h⟩ := h
  exact hL_12 n_12 (0 : Int32) t_places t_stock t_step (0 : Int32) (1 : Int32) _ _ _ h hP hD hS (lv_sub hl [1, 0] rfl)
theorem mX0_measureGaps_1 : Cond.fieldLink RX0 67 "TrialDesk$ChainSearch" "placeCount" "I" ∈ wsX0_measureGaps := List.mem_of_getElem? (i := 1) (by decide +kernel)
theorem mX0_measureGaps_2 : Cond.fieldLink RX0 24 "TrialDesk$ChainSearch" "gaps" "[I" ∈ wsX0_measureGaps := List.mem_of_getElem? (i := 2) (by decide +kernel)
theorem mX0_measureGaps_3 : Cond.fieldLink RX0 15 "TrialDesk$ChainSearch" "places" "[I" ∈ wsX0_measureGaps := List.mem_of_getElem? (i := 3) (by decide +kernel)
abbrev rmX0_measureGaps : Room := { frames := 1, cells := 0, slots := 0, locals := 20 }
set_option maxHeartbeats 4000000 in
set_option maxRecDepth 100000 in
theorem ctX0_measureGaps (l : Launch) (D : va_G) (cB cI cJ cZ cR : ClassId) (tz : Nat) (q_t : Nat) (q_t_askedTimes : Nat) (q_t_places : Nat) (q_t_stock : Nat) (q_t_step : Nat) (q_t_gaps : Nat) (q_t_fewest : Nat) (q_t_left : Nat) (q_t_open : Nat) (q_t_ahead : Nat) (q_t_chained : Nat) (t_asked : Int32) (t_placeCount : Int32) (t_codes : Int32) (t_openCount : Int32) (t_changes : Int32) (t_places : (Nat → Int32)) (t_gaps : (Nat → Int32)) (k : (Nat → Int32) → Prop) (h : wpX0_measureGaps t_places t_gaps t_placeCount k) : MV l yX0_measureGaps wsX0_measureGaps rmX0_measureGaps D (vTy cB cI cJ cZ cR) tz [.ref q_t] ([(q_t, .inr (0, [.ref q_t_askedTimes, .int t_asked, .ref q_t_places, .ref q_t_stock, .ref q_t_step, .ref q_t_gaps, .int t_placeCount, .int t_codes, .ref q_t_fewest, .ref q_t_left, .ref q_t_open, .ref q_t_ahead, .int t_openCount, .ref q_t_chained, .int t_changes])), (q_t_places, .inl (cI, 12, .inl t_places)), (q_t_gaps, .inl (cI, 156, .inl t_gaps))]) (fun (u : (Nat → Int32)) => k u) (fun (u : (Nat → Int32)) => [(q_t, .inr (0, [.ref q_t_askedTimes, .int t_asked, .ref q_t_places, .ref q_t_stock, .ref q_t_step, .ref q_t_gaps, .int t_placeCount, .int t_codes, .ref q_t_fewest, .ref q_t_left, .ref q_t_open, .ref q_t_ahead, .int t_openCount, .ref q_t_chained, .int t_changes])), (q_t_places, .inl (cI, 12, .inl t_places)), (q_t_gaps, .inl (cI, 156, .inl u))]) 0 0 := by
  refine MV.of (cc := cX0_measureGaps) (maxL := 3) (ret := none) (by decide) rfl (Nat.le_of_ble_eq_true rfl) ?_
  intro p e s m args below meth c A ls Q hQ E
  obtain ⟨hx, hb, hml, hr, hts, hown, hlk, hin, hP, hK, hD, hS, hA, hT, hl⟩ := E
  have hown : s.vm.findClass RX0 = some m.cls := hown
  have hl : lv_has ls 3 [(0, .ref q_t)] := hl
  have iX0 : ∀ w ∈ wsX00, w ∈ wsX0_measureGaps := fun _ h => List.mem_cons_of_mem _ (List.mem_append_right _ h)
  unfold wpX0_measureGaps at h
  refine lv_iconst (v := 0) hx hb dX0_measureGaps_0 (by decide) ?_
  refine lv_istore_n (lv' := [(1, .int (0 : Int32)), (0, .ref q_t)]) hx hb dX0_measureGaps_1 rfl hl (by decide) rfl (fun ls hl => ?_)
  have hL_2 : ∀ (n_2 : Nat) (x1_1 : Int32) (t_gaps_2 : (Nat → Int32)) (H : Heap) (locs : List Loc) (ls : Array Slot), wl (wbX0_measureGaps_2 t_placeCount t_places k) n_2 (x1_1, t_gaps_2) → va_P D vwCl ([(q_t, .inr (0, [.ref q_t_askedTimes, .int t_asked, .ref q_t_places, .ref q_t_stock, .ref q_t_step, .ref q_t_gaps, .int t_placeCount, .int t_codes, .ref q_t_fewest, .ref q_t_left, .ref q_t_open, .ref q_t_ahead, .int t_openCount, .ref q_t_chained, .int t_changes])), (q_t_places, .inl (cI, 12, .inl t_places)), (q_t_gaps, .inl (cI, 156, .inl t_gaps_2))]) H → va_D A ([(q_t, .inr (0, [.ref q_t_askedTimes, .int t_asked, .ref q_t_places, .ref q_t_stock, .ref q_t_step, .ref q_t_gaps, .int t_placeCount, .int t_codes, .ref q_t_fewest, .ref q_t_left, .ref q_t_open, .ref q_t_ahead, .int t_openCount, .ref q_t_chained, .int t_changes])), (q_t_places, .inl (cI, 12, .inl t_places)), (q_t_gaps, .inl (cI, 156, .inl t_gaps_2))]) → va_S A s.heap H locs → lv_has ls 3 [(0, .ref q_t), (1, .int x1_1)] → W p l e rmX0_measureGaps s m args below meth c H locs 0 0 Q (F0 m 2 ls []) := by
    intro n_2
    induction n_2 with
    | zero => intro x1_1 t_gaps_2 H locs ls h; exact h.elim
    | succ n_2 ih_2 =>
      intro x1_1 t_gaps_2 H locs ls h hP hD hS hl
      rw [wl, wbX0_measureGaps_2] at h
      refine lv_iload_n hx hb dX0_measureGaps_2 rfl (lv_at hl 1 rfl) ?_
      refine lv_aload_n hx hb dX0_measureGaps_3 rfl (lv_at hl 0 rfl) ?_
      refine va_get (v := .int t_placeCount) hx hb hts iX0 hown hK hP 0 rfl rfl 6 (by decide) (hts _ mX0_measureGaps_1) (fun _ h9 => h9) rfl dX0_measureGaps_4 ?_
      obtain ⟨hp_3, hn_3⟩ := h
      refine lv_icmp_ge (tgt := 59) hx hb dX0_measureGaps_7 (by decide) (fun hc => ?_) (fun hc => ?_)
      · have h := hp_3 hc
        subst hQ
        exact vr_V t_gaps_2 hx hb hr hlk hP hD hS [0, 1, 2] rfl rfl h dX0_measureGaps_59
      · have h := hn_3 hc
        refine lv_iconst (v := 0) hx hb dX0_measureGaps_10 (by decide) ?_
        refine lv_istore_n (lv' := [(2, .int (0 : Int32)), (0, .ref q_t), (1, .int x1_1)]) hx hb dX0_measureGaps_11 rfl hl (by decide) rfl (fun ls hl => ?_)
        have hL_12 : ∀ (n_12 : Nat) (x2_4 : Int32) (t_gaps_5 : (Nat → Int32)) (H : Heap) (locs : List Loc) (ls : Array Slot), wl (wbX0_measureGaps_12 t_placeCount t_places x1_1 (wl (wbX0_measureGaps_2 t_placeCount t_places k) n_2)) n_12 (x2_4, t_gaps_5) → va_P D vwCl ([(q_t, .inr (0, [.ref q_t_askedTimes, .int t_asked, .ref q_t_places, .ref q_t_stock, .ref q_t_step, .ref q_t_gaps, .int t_placeCount, .int t_codes, .ref q_t_fewest, .ref q_t_left, .ref q_t_open, .ref q_t_ahead, .int t_openCount, .ref q_t_chained, .int t_changes])), (q_t_places, .inl (cI, 12, .inl t_places)), (q_t_gaps, .inl (cI, 156, .inl t_gaps_5))]) H → va_D A ([(q_t, .inr (0, [.ref q_t_askedTimes, .int t_asked, .ref q_t_places, .ref q_t_stock, .ref q_t_step, .ref q_t_gaps, .int t_placeCount, .int t_codes, .ref q_t_fewest, .ref q_t_left, .ref q_t_open, .ref q_t_ahead, .int t_openCount, .ref q_t_chained, .int t_changes])), (q_t_places, .inl (cI, 12, .inl t_places)), (q_t_gaps, .inl (cI, 156, .inl t_gaps_5))]) → va_S A s.heap H locs → lv_has ls 3 [(0, .ref q_t), (1, .int x1_1), (2, .int x2_4)] → W p l e rmX0_measureGaps s m args below meth c H locs 0 0 Q (F0 m 12 ls []) := by
          intro n_12
          induction n_12 with
          | zero => intro x2_4 t_gaps_5 H locs ls h; exact h.elim
          | succ n_12 ih_12 =>
            intro x2_4 t_gaps_5 H locs ls h hP hD hS hl
            rw [wl, wbX0_measureGaps_12] at h
            refine lv_iload_n hx hb dX0_measureGaps_12 rfl (lv_at hl 2 rfl) ?_
            refine lv_aload_n hx hb dX0_measureGaps_13 rfl (lv_at hl 0 rfl) ?_
            refine va_get (v := .int t_placeCount) hx hb hts iX0 hown hK hP 0 rfl rfl 6 (by decide) (hts _ mX0_measureGaps_1) (fun _ h9 => h9) rfl dX0_measureGaps_14 ?_
            obtain ⟨hp_6, hn_6⟩ := h
            refine lv_icmp_ge (tgt := 53) hx hb dX0_measureGaps_17 (by decide) (fun hc => ?_) (fun hc => ?_)
            · have h := hp_6 hc
              refine lv_iinc (v := x1_1 + (1 : Int32)) (lv' := [(1, .int (x1_1 + (1 : Int32))), (0, .ref q_t), (2, .int x2_4)]) hx hb dX0_measureGaps_53 hl (k := 1) rfl rfl (by decide) rfl (fun ls hl => ?_)
              refine lv_goto (tgt := 2) hx hb dX0_measureGaps_56 (by decide) ?_
              exact ih_2 (x1_1 + (1 : Int32)) t_gaps_5 _ _ _ h hP hD hS (lv_sub hl [1, 0] rfl)
            · have h := hn_6 hc
              refine lv_aload_n hx hb dX0_measureGaps_20 rfl (lv_at hl 0 rfl) ?_
              refine va_get (v := .ref q_t_gaps) hx hb hts iX0 hown hK hP 0 rfl rfl 5 (by decide) (hts _ mX0_measureGaps_2) (fun _ h9 => h9) rfl dX0_measureGaps_21 ?_
              refine lv_iload_n hx hb dX0_measureGaps_24 rfl (lv_at hl 1 rfl) ?_
              refine lv_bipush (v := 12) hx hb dX0_measureGaps_25 (by decide) ?_
              refine lv_imul hx hb dX0_measureGaps_27 ?_
              refine lv_iload_n hx hb dX0_measureGaps_28 rfl (lv_at hl 2 rfl) ?_
              refine lv_iadd hx hb dX0_measureGaps_29 ?_
              refine lv_aload_n hx hb dX0_measureGaps_30 rfl (lv_at hl 0 rfl) ?_
              refine va_get (v := .ref q_t_places) hx hb hts iX0 hown hK hP 0 rfl rfl 2 (by decide) (hts _ mX0_measureGaps_3) (fun _ h9 => h9) rfl dX0_measureGaps_31 ?_
              refine lv_iload_n hx hb dX0_measureGaps_34 rfl (lv_at hl 1 rfl) ?_
              obtain ⟨hi_7, h⟩ := h
              refine vi_ald hx hb hK hP 1 1 rfl rfl hi_7 rfl dX0_measureGaps_35 ?_
              refine lv_aload_n hx hb dX0_measureGaps_36 rfl (lv_at hl 0 rfl) ?_
              refine va_get (v := .ref q_t_places) hx hb hts iX0 hown hK hP 0 rfl rfl 2 (by decide) (hts _ mX0_measureGaps_3) (fun _ h9 => h9) rfl dX0_measureGaps_37 ?_
              refine lv_iload_n hx hb dX0_measureGaps_40 rfl (lv_at hl 2 rfl) ?_
              obtain ⟨hi_8, h⟩ := h
              refine vi_ald hx hb hK hP 1 1 rfl rfl hi_8 rfl dX0_measureGaps_41 ?_
              refine lv_ixor hx hb dX0_measureGaps_42 ?_
              refine vc_SI (As := [.int ((t_places (x1_1.toNatClampNeg)) ^^^ (t_places (x2_4.toNatClampNeg)))]) (rest := [.int ((x1_1 * (12 : Int32)) + x2_4), .ref q_t_gaps]) (wr := [(q_t, .inr (0, [.ref q_t_askedTimes, .int t_asked, .ref q_t_places, .ref q_t_stock, .ref q_t_step, .ref q_t_gaps, .int t_placeCount, .int t_codes, .ref q_t_fewest, .ref q_t_left, .ref q_t_open, .ref q_t_ahead, .int t_openCount, .ref q_t_chained, .int t_changes])), (q_t_places, .inl (cI, 12, .inl t_places)), (q_t_gaps, .inl (cI, 156, .inl t_gaps_5))]) ⟨hx, hb, hml, hown, hts⟩ (ctbit l D cB cI cJ cZ cR tz ((t_places (x1_1.toNatClampNeg)) ^^^ (t_places (x2_4.toNatClampNeg)))) (va_cwS 1 hts gX0_measureGaps_J6_bitCount_0f7a4 rfl rfl rfl hdJ6_bitCount_0f7a4.2 ⟨Nat.le_of_ble_eq_true rfl, Nat.le_of_ble_eq_true rfl⟩) hK hP hD hS hA hT [] [0, 1, 2] rfl rfl rfl rfl (by decide) rfl rfl hl.1 (Nat.le_of_ble_eq_true rfl) dX0_measureGaps_43 ⟨Nat.le_of_ble_eq_true rfl, Nat.le_of_ble_eq_true rfl⟩ (fun r9 u9 H locs h9 hP hD hS => ?_)
              subst h9
              have hP : va_P D vwCl ([(q_t, .inr (0, [.ref q_t_askedTimes, .int t_asked, .ref q_t_places, .ref q_t_stock, .ref q_t_step, .ref q_t_gaps, .int t_placeCount, .int t_codes, .ref q_t_fewest, .ref q_t_left, .ref q_t_open, .ref q_t_ahead, .int t_openCount, .ref q_t_chained, .int t_changes])), (q_t_places, .inl (cI, 12, .inl t_places)), (q_t_gaps, .inl (cI, 156, .inl t_gaps_5))]) H := hP
              have hD : va_D A ([(q_t, .inr (0, [.ref q_t_askedTimes, .int t_asked, .ref q_t_places, .ref q_t_stock, .ref q_t_step, .ref q_t_gaps, .int t_placeCount, .int t_codes, .ref q_t_fewest, .ref q_t_left, .ref q_t_open, .ref q_t_ahead, .int t_openCount, .ref q_t_chained, .int t_changes])), (q_t_places, .inl (cI, 12, .inl t_places)), (q_t_gaps, .inl (cI, 156, .inl t_gaps_5))]) := hD
              obtain ⟨hi_9, h⟩ := h
              refine vi_ast (x := vbc ((t_places (x1_1.toNatClampNeg)) ^^^ (t_places (x2_4.toNatClampNeg)))) hx hb hK hP hD hS 2 1 rfl rfl hi_9 rfl dX0_measureGaps_46 (fun H locs hP hD hS => ?_)
              have hP : va_P D vwCl ([(q_t, .inr (0, [.ref q_t_askedTimes, .int t_asked, .ref q_t_places, .ref q_t_stock, .ref q_t_step, .ref q_t_gaps, .int t_placeCount, .int t_codes, .ref q_t_fewest, .ref q_t_left, .ref q_t_open, .ref q_t_ahead, .int t_openCount, .ref q_t_chained, .int t_changes])), (q_t_places, .inl (cI, 12, .inl t_places)), (q_t_gaps, .inl (cI, 156, .inl (upd t_gaps_5 (((x1_1 * (12 : Int32)) + x2_4).toNatClampNeg) (vbc ((t_places (x1_1.toNatClampNeg)) ^^^ (t_places (x2_4.toNatClampNeg)))))))]) H := hP
              have hD : va_D A ([(q_t, .inr (0, [.ref q_t_askedTimes, .int t_asked, .ref q_t_places, .ref q_t_stock, .ref q_t_step, .ref q_t_gaps, .int t_placeCount, .int t_codes, .ref q_t_fewest, .ref q_t_left, .ref q_t_open, .ref q_t_ahead, .int t_openCount, .ref q_t_chained, .int t_changes])), (q_t_places, .inl (cI, 12, .inl t_places)), (q_t_gaps, .inl (cI, 156, .inl (upd t_gaps_5 (((x1_1 * (12 : Int32)) + x2_4).toNatClampNeg) (vbc ((t_places (x1_1.toNatClampNeg)) ^^^ (t_places (x2_4.toNatClampNeg)))))))]) := hD
              refine lv_iinc (v := x2_4 + (1 : Int32)) (lv' := [(2, .int (x2_4 + (1 : Int32))), (0, .ref q_t), (1, .int x1_1)]) hx hb dX0_measureGaps_47 hl (k := 2) rfl rfl (by decide) rfl (fun ls hl => ?_)
              refine lv_goto (tgt := 12) hx hb dX0_measureGaps_50 (by decide) ?_
              exact ih_12 (x2_4 + (1 : Int32)) (upd t_gaps_5 (((x1_1 * (12 : Int32)) + x2_4).toNatClampNeg) (vbc ((t_places (x1_1.toNatClampNeg)) ^^^ (t_places (x2_4.toNatClampNeg))))) _ _ _ h hP hD hS (lv_sub hl [1, 2, 0] rfl)
        obtain ⟨n_12, h⟩ := h
        exact hL_12 n_12 (0 : Int32) t_gaps_2 _ _ _ h hP hD hS (lv_sub hl [1, 2, 0] rfl)
  obtain ⟨n_2, h⟩ := h
  exact hL_2 n_2 (0 : Int32) t_gaps _ _ _ h hP hD hS (lv_sub hl [1, 0] rfl)
theorem mX0_makeRoom_1 : Cond.fieldLink RX0 27 "TrialDesk$ChainSearch" "fewest" "[B" ∈ wsX0_makeRoom := List.mem_of_getElem? (i := 1) (by decide +kernel)
theorem mX0_makeRoom_2 : Cond.constant RX0 86 (49152) ∈ wsX0_makeRoom := List.mem_of_getElem? (i := 2) (by decide +kernel)
theorem mX0_makeRoom_3 : Cond.methodLink RX0 87 Lib.Math.max.name ∈ wsX0_makeRoom := List.mem_of_getElem? (i := 3) (by decide +kernel)
theorem mX0_makeRoom_4 : Cond.static Lib.Math.max.name ∈ wsX0_makeRoom := List.mem_of_getElem? (i := 4) (by decide +kernel)
theorem mX0_makeRoom_5 : Cond.initialized "java/lang/Math" ∈ wsX0_makeRoom := List.mem_of_getElem? (i := 5) (by decide +kernel)
theorem mX0_makeRoom_6 : Cond.code Lib.Math.max.name Lib.Math.max.code 2 (some .int) ∈ wsX0_makeRoom := List.mem_of_getElem? (i := 6) (by decide +kernel)
theorem mX0_makeRoom_7 : Cond.methodLink RX0 93 Lib.Math.min.name ∈ wsX0_makeRoom := List.mem_of_getElem? (i := 7) (by decide +kernel)
theorem mX0_makeRoom_8 : Cond.static Lib.Math.min.name ∈ wsX0_makeRoom := List.mem_of_getElem? (i := 8) (by decide +kernel)
theorem mX0_makeRoom_9 : Cond.code Lib.Math.min.name Lib.Math.min.code 2 (some .int) ∈ wsX0_makeRoom := List.mem_of_getElem? (i := 9) (by decide +kernel)
theorem mX0_makeRoom_10 : Cond.arrayClass .byte ∈ wsX0_makeRoom := List.mem_of_getElem? (i := 10) (by decide +kernel)
abbrev rmX0_makeRoom (bud : Nat) : Room := { frames := 1, cells := 1, slots := bud, locals := 21 }
set_option maxHeartbeats 4000000 in
set_option maxRecDepth 100000 in
theorem ctX0_makeRoom (l : Launch) (D : va_G) (cB cI cJ cZ cR : ClassId) (tz : Nat) (q_t : Nat) (q_t_askedTimes : Nat) (q_t_places : Nat) (q_t_stock : Nat) (q_t_step : Nat) (q_t_gaps : Nat) (q_t_fewest : Nat) (q_t_left : Nat) (q_t_open : Nat) (q_t_ahead : Nat) (q_t_chained : Nat) (t_asked : Int32) (t_placeCount : Int32) (t_codes : Int32) (t_openCount : Int32) (t_changes : Int32) (n_t_fewest : Nat) (t_fewest : (Nat → Int32)) (a1 : Int32) (bud : Nat) (k : Nat → Nat → (Nat → Int32) → Prop) (h : wpX0_makeRoom q_t_fewest n_t_fewest t_fewest a1 bud k) : MV l yX0_makeRoom wsX0_makeRoom (rmX0_makeRoom bud) D (vTy cB cI cJ cZ cR) tz [.ref q_t, .int a1] ([(q_t, .inr (0, [.ref q_t_askedTimes, .int t_asked, .ref q_t_places, .ref q_t_stock, .ref q_t_step, .ref q_t_gaps, .int t_placeCount, .int t_codes, .ref q_t_fewest, .ref q_t_left, .ref q_t_open, .ref q_t_ahead, .int t_openCount, .ref q_t_chained, .int t_changes])), (q_t_fewest, .inl (cB, n_t_fewest, .inl t_fewest))]) (fun (u : Nat × Nat × (Nat → Int32)) => k u.1 u.2.1 u.2.2) (fun (u : Nat × Nat × (Nat → Int32)) => [(q_t, .inr (0, [.ref q_t_askedTimes, .int t_asked, .ref q_t_places, .ref q_t_stock, .ref q_t_step, .ref q_t_gaps, .int t_placeCount, .int t_codes, .ref (u.1), .ref q_t_left, .ref q_t_open, .ref q_t_ahead, .int t_openCount, .ref q_t_chained, .int t_changes])), (u.1, .inl (cB, u.2.1, .inl (u.2.2)))]) 1 bud := by
  refine MV.of (cc := cX0_makeRoom) (maxL := 2) (ret := none) (by decide) rfl (Nat.le_of_ble_eq_true rfl) ?_
  intro p e s m args below meth c A ls Q hQ E
  obtain ⟨hx, hb, hml, hr, hts, hown, hlk, hin, hP, hK, hD, hS, hA, hT, hl⟩ := E
  have hown : s.vm.findClass RX0 = some m.cls := hown
  have hl : lv_has ls 2 [(0, .ref q_t), (1, .int a1)] := hl
  have iX0 : ∀ w ∈ wsX00, w ∈ wsX0_makeRoom := fun _ h => List.mem_cons_of_mem _ (List.mem_append_right _ h)
  unfold wpX0_makeRoom at h
  refine lv_iload_n hx hb dX0_makeRoom_0 rfl (lv_at hl 1 rfl) ?_
  refine lv_aload_n hx hb dX0_makeRoom_1 rfl (lv_at hl 0 rfl) ?_
  refine va_get (v := .ref q_t_fewest) hx hb hts iX0 hown hK hP 0 rfl rfl 8 (by decide) (hts _ mX0_makeRoom_1) (fun _ h9 => h9) rfl dX0_makeRoom_2 ?_
  refine va_alen (v := Int32.ofNat n_t_fewest) hx hb hK hP 1 0 rfl rfl rfl dX0_makeRoom_5 ?_
  obtain ⟨hp_1, hn_1⟩ := h
  refine lv_icmp_le (tgt := 37) hx hb dX0_makeRoom_6 (by decide) (fun hc => ?_) (fun hc => ?_)
  · have h := hp_1 hc
    subst hQ
    refine W.widen (k := 1) (n := bud) (by omega) (by omega) ?_
    exact vr_V (q_t_fewest, n_t_fewest, t_fewest) hx hb hr hlk hP hD hS [0, 1] rfl rfl h dX0_makeRoom_37
  · have h := hn_1 hc
    refine lv_iload_n hx hb dX0_makeRoom_9 rfl (lv_at hl 1 rfl) ?_
    refine lv_ldc (v := 49152) hx hb hown (hts _ mX0_makeRoom_2) dX0_makeRoom_10 ?_
    obtain ⟨hp_2, hn_2⟩ := h
    refine lv_icmp_gt (tgt := 37) hx hb dX0_makeRoom_12 (by decide) (fun hc => ?_) (fun hc => ?_)
    · have h := hp_2 hc
      subst hQ
      refine W.widen (k := 1) (n := bud) (by omega) (by omega) ?_
      exact vr_V (q_t_fewest, n_t_fewest, t_fewest) hx hb hr hlk hP hD hS [0, 1] rfl rfl h dX0_makeRoom_37
    · have h := hn_2 hc
      refine lv_aload_n hx hb dX0_makeRoom_15 rfl (lv_at hl 0 rfl) ?_
      refine lv_ldc (v := 49152) hx hb hown (hts _ mX0_makeRoom_2) dX0_makeRoom_16 ?_
      refine lv_iload_n hx hb dX0_makeRoom_18 rfl (lv_at hl 1 rfl) ?_
      refine lv_iconst (v := 2) hx hb dX0_makeRoom_19 (by decide) ?_
      refine lv_aload_n hx hb dX0_makeRoom_20 rfl (lv_at hl 0 rfl) ?_
      refine va_get (v := .ref q_t_fewest) hx hb hts iX0 hown hK hP 0 rfl rfl 8 (by decide) (hts _ mX0_makeRoom_1) (fun _ h9 => h9) rfl dX0_makeRoom_21 ?_
      refine va_alen (v := Int32.ofNat n_t_fewest) hx hb hK hP 1 0 rfl rfl rfl dX0_makeRoom_24 ?_
      refine lv_imul hx hb dX0_makeRoom_25 ?_
      refine va_mmax hx hb (hml.trans hl.1.symm) hown (hts _ mX0_makeRoom_3) (hts _ mX0_makeRoom_4) (hts _ mX0_makeRoom_5) (hts _ mX0_makeRoom_6) (Nat.le_of_ble_eq_true rfl) (Nat.le_of_ble_eq_true rfl) (Nat.le_of_ble_eq_true rfl) ((show 0 ≤ bud by omega)) dX0_makeRoom_26 ?_
      refine va_mmin hx hb (hml.trans hl.1.symm) hown (hts _ mX0_makeRoom_7) (hts _ mX0_makeRoom_8) (hts _ mX0_makeRoom_5) (hts _ mX0_makeRoom_9) (Nat.le_of_ble_eq_true rfl) (Nat.le_of_ble_eq_true rfl) (Nat.le_of_ble_eq_true rfl) ((show 0 ≤ bud by omega)) dX0_makeRoom_29 ?_
      obtain ⟨hi_3a, hi_3b, hi_3c, h⟩ := h
      refine va_newa (atype := .byte) (ty := .byte) (a0 := ((if (if a1 < ((2 : Int32) * (Int32.ofNat n_t_fewest)) then ((2 : Int32) * (Int32.ofNat n_t_fewest)) else a1) < (49152 : Int32) then (if a1 < ((2 : Int32) * (Int32.ofNat n_t_fewest)) then ((2 : Int32) * (Int32.ofNat n_t_fewest)) else a1) else (49152 : Int32)).toNatClampNeg, .inl (fun _ => 0))) hx hb (hts _ mX0_makeRoom_10) rfl hK hP hD hS hA (fun _ => rfl) hi_3a rfl (show ((if (if a1 < ((2 : Int32) * (Int32.ofNat n_t_fewest)) then ((2 : Int32) * (Int32.ofNat n_t_fewest)) else a1) < (49152 : Int32) then (if a1 < ((2 : Int32) * (Int32.ofNat n_t_fewest)) then ((2 : Int32) * (Int32.ofNat n_t_fewest)) else a1) else (49152 : Int32)).toNatClampNeg) * 1 ≤ 536870912 by omega) (Nat.le_of_ble_eq_true rfl) (show 0 + ((if (if a1 < ((2 : Int32) * (Int32.ofNat n_t_fewest)) then ((2 : Int32) * (Int32.ofNat n_t_fewest)) else a1) < (49152 : Int32) then (if a1 < ((2 : Int32) * (Int32.ofNat n_t_fewest)) then ((2 : Int32) * (Int32.ofNat n_t_fewest)) else a1) else (49152 : Int32)).toNatClampNeg) ≤ bud by omega) dX0_makeRoom_32 (fun q9_3 cA9 H hK9 hP hD hS => ?_)
      obtain rfl := (hK9.cls 0 rfl rfl).symm
      have h := h q9_3
      have hP : va_P D vwCl ([(q_t, .inr (0, [.ref q_t_askedTimes, .int t_asked, .ref q_t_places, .ref q_t_stock, .ref q_t_step, .ref q_t_gaps, .int t_placeCount, .int t_codes, .ref q_t_fewest, .ref q_t_left, .ref q_t_open, .ref q_t_ahead, .int t_openCount, .ref q_t_chained, .int t_changes])), (q_t_fewest, .inl (cB, n_t_fewest, .inl t_fewest)), (q9_3, .inl (cB, ((if (if a1 < ((2 : Int32) * (Int32.ofNat n_t_fewest)) then ((2 : Int32) * (Int32.ofNat n_t_fewest)) else a1) < (49152 : Int32) then (if a1 < ((2 : Int32) * (Int32.ofNat n_t_fewest)) then ((2 : Int32) * (Int32.ofNat n_t_fewest)) else a1) else (49152 : Int32)).toNatClampNeg), .inl (fun _ => 0)))]) H := hP
      have hD : va_D A ([(q_t, .inr (0, [.ref q_t_askedTimes, .int t_asked, .ref q_t_places, .ref q_t_stock, .ref q_t_step, .ref q_t_gaps, .int t_placeCount, .int t_codes, .ref q_t_fewest, .ref q_t_left, .ref q_t_open, .ref q_t_ahead, .int t_openCount, .ref q_t_chained, .int t_changes])), (q_t_fewest, .inl (cB, n_t_fewest, .inl t_fewest)), (q9_3, .inl (cB, ((if (if a1 < ((2 : Int32) * (Int32.ofNat n_t_fewest)) then ((2 : Int32) * (Int32.ofNat n_t_fewest)) else a1) < (49152 : Int32) then (if a1 < ((2 : Int32) * (Int32.ofNat n_t_fewest)) then ((2 : Int32) * (Int32.ofNat n_t_fewest)) else a1) else (49152 : Int32)).toNatClampNeg), .inl (fun _ => 0)))]) := hD
      refine va_put (v := .ref q9_3) (ty := .array (.byte)) hx hb hts iX0 tyX0 tyX0_ok nmX0 hown hK hP hD hS 0 rfl rfl 8 (by decide) (hts _ mX0_makeRoom_1) (fun _ h9 => h9) rfl (tyX0_ok 8 (by decide)) rfl rfl (Nat.le_of_ble_eq_true rfl) dX0_makeRoom_34 (fun H locs hP hD hS => ?_)
      have hP : va_P D vwCl ([(q_t, .inr (0, [.ref q_t_askedTimes, .int t_asked, .ref q_t_places, .ref q_t_stock, .ref q_t_step, .ref q_t_gaps, .int t_placeCount, .int t_codes, .ref q9_3, .ref q_t_left, .ref q_t_open, .ref q_t_ahead, .int t_openCount, .ref q_t_chained, .int t_changes])), (q_t_fewest, .inl (cB, n_t_fewest, .inl t_fewest)), (q9_3, .inl (cB, ((if (if a1 < ((2 : Int32) * (Int32.ofNat n_t_fewest)) then ((2 : Int32) * (Int32.ofNat n_t_fewest)) else a1) < (49152 : Int32) then (if a1 < ((2 : Int32) * (Int32.ofNat n_t_fewest)) then ((2 : Int32) * (Int32.ofNat n_t_fewest)) else a1) else (49152 : Int32)).toNatClampNeg), .inl (fun _ => 0)))]) H := hP
      have hD : va_D A ([(q_t, .inr (0, [.ref q_t_askedTimes, .int t_asked, .ref q_t_places, .ref q_t_stock, .ref q_t_step, .ref q_t_gaps, .int t_placeCount, .int t_codes, .ref q9_3, .ref q_t_left, .ref q_t_open, .ref q_t_ahead, .int t_openCount, .ref q_t_chained, .int t_changes])), (q_t_fewest, .inl (cB, n_t_fewest, .inl t_fewest)), (q9_3, .inl (cB, ((if (if a1 < ((2 : Int32) * (Int32.ofNat n_t_fewest)) then ((2 : Int32) * (Int32.ofNat n_t_fewest)) else a1) < (49152 : Int32) then (if a1 < ((2 : Int32) * (Int32.ofNat n_t_fewest)) then ((2 : Int32) * (Int32.ofNat n_t_fewest)) else a1) else (49152 : Int32)).toNatClampNeg), .inl (fun _ => 0)))]) := hD
      have hP : va_P D vwCl ([(q_t, .inr (0, [.ref q_t_askedTimes, .int t_asked, .ref q_t_places, .ref q_t_stock, .ref q_t_step, .ref q_t_gaps, .int t_placeCount, .int t_codes, .ref q9_3, .ref q_t_left, .ref q_t_open, .ref q_t_ahead, .int t_openCount, .ref q_t_chained, .int t_changes])), (q9_3, .inl (cB, ((if (if a1 < ((2 : Int32) * (Int32.ofNat n_t_fewest)) then ((2 : Int32) * (Int32.ofNat n_t_fewest)) else a1) < (49152 : Int32) then (if a1 < ((2 : Int32) * (Int32.ofNat n_t_fewest)) then ((2 : Int32) * (Int32.ofNat n_t_fewest)) else a1) else (49152 : Int32)).toNatClampNeg), .inl (fun _ => 0)))]) H := hP.sub [0, 2] rfl
      have hD : va_D A ([(q_t, .inr (0, [.ref q_t_askedTimes, .int t_asked, .ref q_t_places, .ref q_t_stock, .ref q_t_step, .ref q_t_gaps, .int t_placeCount, .int t_codes, .ref q9_3, .ref q_t_left, .ref q_t_open, .ref q_t_ahead, .int t_openCount, .ref q_t_chained, .int t_changes])), (q9_3, .inl (cB, ((if (if a1 < ((2 : Int32) * (Int32.ofNat n_t_fewest)) then ((2 : Int32) * (Int32.ofNat n_t_fewest)) else a1) < (49152 : Int32) then (if a1 < ((2 : Int32) * (Int32.ofNat n_t_fewest)) then ((2 : Int32) * (Int32.ofNat n_t_fewest)) else a1) else (49152 : Int32)).toNatClampNeg), .inl (fun _ => 0)))]) := hD.sub [0, 2] rfl rfl
      have hP : va_P D vwCl ([(q_t, .inr (0, [.ref q_t_askedTimes, .int t_asked, .ref q_t_places, .ref q_t_stock, .ref q_t_step, .ref q_t_gaps, .int t_placeCount, .int t_codes, .ref q9_3, .ref q_t_left, .ref q_t_open, .ref q_t_ahead, .int t_openCount, .ref q_t_chained, .int t_changes])), (q9_3, .inl (cB, ((if (if a1 < ((2 : Int32) * (Int32.ofNat n_t_fewest)) then ((2 : Int32) * (Int32.ofNat n_t_fewest)) else a1) < (49152 : Int32) then (if a1 < ((2 : Int32) * (Int32.ofNat n_t_fewest)) then ((2 : Int32) * (Int32.ofNat n_t_fewest)) else a1) else (49152 : Int32)).toNatClampNeg), .inl (fun _ => 0)))]) H := hP
      have hD : va_D A ([(q_t, .inr (0, [.ref q_t_askedTimes, .int t_asked, .ref q_t_places, .ref q_t_stock, .ref q_t_step, .ref q_t_gaps, .int t_placeCount, .int t_codes, .ref q9_3, .ref q_t_left, .ref q_t_open, .ref q_t_ahead, .int t_openCount, .ref q_t_chained, .int t_changes])), (q9_3, .inl (cB, ((if (if a1 < ((2 : Int32) * (Int32.ofNat n_t_fewest)) then ((2 : Int32) * (Int32.ofNat n_t_fewest)) else a1) < (49152 : Int32) then (if a1 < ((2 : Int32) * (Int32.ofNat n_t_fewest)) then ((2 : Int32) * (Int32.ofNat n_t_fewest)) else a1) else (49152 : Int32)).toNatClampNeg), .inl (fun _ => 0)))]) := hD
      subst hQ
      refine W.widen (k := 1) (n := bud) (by omega) (by omega) ?_
      exact vr_V (q9_3, ((if (if a1 < ((2 : Int32) * (Int32.ofNat n_t_fewest)) then ((2 : Int32) * (Int32.ofNat n_t_fewest)) else a1) < (49152 : Int32) then (if a1 < ((2 : Int32) * (Int32.ofNat n_t_fewest)) then ((2 : Int32) * (Int32.ofNat n_t_fewest)) else a1) else (49152 : Int32)).toNatClampNeg), fun _ => 0) hx hb hr hlk hP hD hS [0, 1] rfl rfl h dX0_makeRoom_37
theorem mX0_listOpen_1 : Cond.fieldLink RX0 105 "TrialDesk$ChainSearch" "openCount" "I" ∈ wsX0_listOpen := List.mem_of_getElem? (i := 1) (by decide +kernel)
theorem mX0_listOpen_2 : Cond.fieldLink RX0 67 "TrialDesk$ChainSearch" "placeCount" "I" ∈ wsX0_listOpen := List.mem_of_getElem? (i := 2) (by decide +kernel)
theorem mX0_listOpen_3 : Cond.fieldLink RX0 21 "TrialDesk$ChainSearch" "step" "[I" ∈ wsX0_listOpen := List.mem_of_getElem? (i := 3) (by decide +kernel)
theorem mX0_listOpen_4 : Cond.fieldLink RX0 31 "TrialDesk$ChainSearch" "left" "[I" ∈ wsX0_listOpen := List.mem_of_getElem? (i := 4) (by decide +kernel)
theorem mX0_listOpen_5 : Cond.fieldLink RX0 27 "TrialDesk$ChainSearch" "fewest" "[B" ∈ wsX0_listOpen := List.mem_of_getElem? (i := 5) (by decide +kernel)
theorem mX0_listOpen_6 : Cond.fieldLink RX0 34 "TrialDesk$ChainSearch" "open" "[I" ∈ wsX0_listOpen := List.mem_of_getElem? (i := 6) (by decide +kernel)
theorem mX0_listOpen_7 : Cond.fieldLink RX0 37 "TrialDesk$ChainSearch" "ahead" "[I" ∈ wsX0_listOpen := List.mem_of_getElem? (i := 7) (by decide +kernel)
abbrev rmX0_listOpen : Room := { frames := 0, cells := 0, slots := 0, locals := 0 }
set_option maxHeartbeats 4000000 in
set_option maxRecDepth 100000 in
theorem ctX0_listOpen (l : Launch) (D : va_G) (cB cI cJ cZ cR : ClassId) (tz : Nat) (q_t : Nat) (q_t_askedTimes : Nat) (q_t_places : Nat) (q_t_stock : Nat) (q_t_step : Nat) (q_t_gaps : Nat) (q_t_fewest : Nat) (q_t_left : Nat) (q_t_open : Nat) (q_t_ahead : Nat) (q_t_chained : Nat) (t_asked : Int32) (t_placeCount : Int32) (t_codes : Int32) (t_openCount : Int32) (t_changes : Int32) (t_step : (Nat → Int32)) (n_t_fewest : Nat) (t_fewest : (Nat → Int32)) (t_left : (Nat → Int32)) (t_open : (Nat → Int32)) (t_ahead : (Nat → Int32)) (a1 : Int32) (k : (Nat → Int32) → (Nat → Int32) → Int32 → Prop) (h : wpX0_listOpen t_step t_placeCount n_t_fewest t_fewest t_left t_open t_ahead t_openCount a1 k) : MV l yX0_listOpen wsX0_listOpen rmX0_listOpen D (vTy cB cI cJ cZ cR) tz [.ref q_t, .int a1] ([(q_t, .inr (0, [.ref q_t_askedTimes, .int t_asked, .ref q_t_places, .ref q_t_stock, .ref q_t_step, .ref q_t_gaps, .int t_placeCount, .int t_codes, .ref q_t_fewest, .ref q_t_left, .ref q_t_open, .ref q_t_ahead, .int t_openCount, .ref q_t_chained, .int t_changes])), (q_t_step, .inl (cI, 12, .inl t_step)), (q_t_fewest, .inl (cB, n_t_fewest, .inl t_fewest)), (q_t_left, .inl (cI, 12, .inl t_left)), (q_t_open, .inl (cI, 12, .inl t_open)), (q_t_ahead, .inl (cI, 12, .inl t_ahead))]) (fun (u : (Nat → Int32) × (Nat → Int32) × Int32) => k u.1 u.2.1 u.2.2) (fun (u : (Nat → Int32) × (Nat → Int32) × Int32) => [(q_t, .inr (0, [.ref q_t_askedTimes, .int t_asked, .ref q_t_places, .ref q_t_stock, .ref q_t_step, .ref q_t_gaps, .int t_placeCount, .int t_codes, .ref q_t_fewest, .ref q_t_left, .ref q_t_open, .ref q_t_ahead, .int (u.2.2), .ref q_t_chained, .int t_changes])), (q_t_step, .inl (cI, 12, .inl t_step)), (q_t_fewest, .inl (cB, n_t_fewest, .inl t_fewest)), (q_t_left, .inl (cI, 12, .inl t_left)), (q_t_open, .inl (cI, 12, .inl (u.1))), (q_t_ahead, .inl (cI, 12, .inl (u.2.1)))]) 0 0 := by
  refine MV.of (cc := cX0_listOpen) (maxL := 4) (ret := none) (by decide) rfl (Nat.le_of_ble_eq_true rfl) ?_
  intro p e s m args below meth c A ls Q hQ E
  obtain ⟨hx, hb, hml, hr, hts, hown, hlk, hin, hP, hK, hD, hS, hA, hT, hl⟩ := E
  have hown : s.vm.findClass RX0 = some m.cls := hown
  have hl : lv_has ls 4 [(0, .ref q_t), (1, .int a1)] := hl
  have iX0 : ∀ w ∈ wsX00, w ∈ wsX0_listOpen := fun _ h => List.mem_cons_of_mem _ (List.mem_append_right _ h)
  unfold wpX0_listOpen at h
  refine lv_aload_n hx hb dX0_listOpen_0 rfl (lv_at hl 0 rfl) ?_
  refine lv_iconst (v := 0) hx hb dX0_listOpen_1 (by decide) ?_
  refine va_put (v := .int (0 : Int32)) (ty := .int) hx hb hts iX0 tyX0 tyX0_ok nmX0 hown hK hP hD hS 0 rfl rfl 12 (by decide) (hts _ mX0_listOpen_1) (fun _ h9 => h9) rfl (tyX0_ok 12 (by decide)) rfl rfl (Nat.le_of_ble_eq_true rfl) dX0_listOpen_2 (fun H locs hP hD hS => ?_)
  have hP : va_P D vwCl ([(q_t, .inr (0, [.ref q_t_askedTimes, .int t_asked, .ref q_t_places, .ref q_t_stock, .ref q_t_step, .ref q_t_gaps, .int t_placeCount, .int t_codes, .ref q_t_fewest, .ref q_t_left, .ref q_t_open, .ref q_t_ahead, .int (0 : Int32), .ref q_t_chained, .int t_changes])), (q_t_step, .inl (cI, 12, .inl t_step)), (q_t_fewest, .inl (cB, n_t_fewest, .inl t_fewest)), (q_t_left, .inl (cI, 12, .inl t_left)), (q_t_open, .inl (cI, 12, .inl t_open)), (q_t_ahead, .inl (cI, 12, .inl t_ahead))]) H := hP
  have hD : va_D A ([(q_t, .inr (0, [.ref q_t_askedTimes, .int t_asked, .ref q_t_places, .ref q_t_stock, .ref q_t_step, .ref q_t_gaps, .int t_placeCount, .int t_codes, .ref q_t_fewest, .ref q_t_left, .ref q_t_open, .ref q_t_ahead, .int (0 : Int32), .ref q_t_chained, .int t_changes])), (q_t_step, .inl (cI, 12, .inl t_step)), (q_t_fewest, .inl (cB, n_t_fewest, .inl t_fewest)), (q_t_left, .inl (cI, 12, .inl t_left)), (q_t_open, .inl (cI, 12, .inl t_open)), (q_t_ahead, .inl (cI, 12, .inl t_ahead))]) := hD
  refine lv_iconst (v := 0) hx hb dX0_listOpen_5 (by decide) ?_
  refine lv_istore_n (lv' := [(2, .int (0 : Int32)), (0, .ref q_t), (1, .int a1)]) hx hb dX0_listOpen_6 rfl hl (by decide) rfl (fun ls hl => ?_)
  have hL_7 : ∀ (n_7 : Nat) (x2_1 : Int32) (t_open_2 : (Nat → Int32)) (t_ahead_3 : (Nat → Int32)) (t_openCount_4 : Int32) (H : Heap) (locs : List Loc) (ls : Array Slot), wl (wbX0_listOpen_7 t_placeCount t_step n_t_fewest t_fewest t_left a1 k) n_7 (x2_1, t_open_2, t_ahead_3, t_openCount_4) → va_P D vwCl ([(q_t, .inr (0, [.ref q_t_askedTimes, .int t_asked, .ref q_t_places, .ref q_t_stock, .ref q_t_step, .ref q_t_gaps, .int t_placeCount, .int t_codes, .ref q_t_fewest, .ref q_t_left, .ref q_t_open, .ref q_t_ahead, .int t_openCount_4, .ref q_t_chained, .int t_changes])), (q_t_step, .inl (cI, 12, .inl t_step)), (q_t_fewest, .inl (cB, n_t_fewest, .inl t_fewest)), (q_t_left, .inl (cI, 12, .inl t_left)), (q_t_open, .inl (cI, 12, .inl t_open_2)), (q_t_ahead, .inl (cI, 12, .inl t_ahead_3))]) H → va_D A ([(q_t, .inr (0, [.ref q_t_askedTimes, .int t_asked, .ref q_t_places, .ref q_t_stock, .ref q_t_step, .ref q_t_gaps, .int t_placeCount, .int t_codes, .ref q_t_fewest, .ref q_t_left, .ref q_t_open, .ref q_t_ahead, .int t_openCount_4, .ref q_t_chained, .int t_changes])), (q_t_step, .inl (cI, 12, .inl t_step)), (q_t_fewest, .inl (cB, n_t_fewest, .inl t_fewest)), (q_t_left, .inl (cI, 12, .inl t_left)), (q_t_open, .inl (cI, 12, .inl t_open_2)), (q_t_ahead, .inl (cI, 12, .inl t_ahead_3))]) → va_S A s.heap H locs → lv_has ls 4 [(0, .ref q_t), (1, .int a1), (2, .int x2_1)] → W p l e rmX0_listOpen s m args below meth c H locs 0 0 Q (F0 m 7 ls []) := by
    intro n_7
    induction n_7 with
    | zero => intro x2_1 t_open_2 t_ahead_3 t_openCount_4 H locs ls h; exact h.elim
    | succ n_7 ih_7 =>
      intro x2_1 t_open_2 t_ahead_3 t_openCount_4 H locs ls h hP hD hS hl
      rw [wl, wbX0_listOpen_7] at h
      refine lv_iload_n hx hb dX0_listOpen_7 rfl (lv_at hl 2 rfl) ?_
      refine lv_aload_n hx hb dX0_listOpen_8 rfl (lv_at hl 0 rfl) ?_
      refine va_get (v := .int t_placeCount) hx hb hts iX0 hown hK hP 0 rfl rfl 6 (by decide) (hts _ mX0_listOpen_2) (fun _ h9 => h9) rfl dX0_listOpen_9 ?_
      obtain ⟨hp_5, hn_5⟩ := h
      refine lv_icmp_ge (tgt := 94) hx hb dX0_listOpen_12 (by decide) (fun hc => ?_) (fun hc => ?_)
      · have h := hp_5 hc
        subst hQ
        exact vr_V (t_open_2, t_ahead_3, t_openCount_4) hx hb hr hlk hP hD hS [0, 1, 2, 3, 4, 5] rfl rfl h dX0_listOpen_94
      · have h := hn_5 hc
        refine lv_iload_n hx hb dX0_listOpen_15 rfl (lv_at hl 1 rfl) ?_
        refine lv_aload_n hx hb dX0_listOpen_16 rfl (lv_at hl 0 rfl) ?_
        refine va_get (v := .ref q_t_step) hx hb hts iX0 hown hK hP 0 rfl rfl 4 (by decide) (hts _ mX0_listOpen_3) (fun _ h9 => h9) rfl dX0_listOpen_17 ?_
        refine lv_iload_n hx hb dX0_listOpen_20 rfl (lv_at hl 2 rfl) ?_
        obtain ⟨hi_6, h⟩ := h
        refine vi_ald hx hb hK hP 1 1 rfl rfl hi_6 rfl dX0_listOpen_21 ?_
        refine lv_isub hx hb dX0_listOpen_22 ?_
        refine lv_aload_n hx hb dX0_listOpen_23 rfl (lv_at hl 0 rfl) ?_
        refine va_get (v := .int t_placeCount) hx hb hts iX0 hown hK hP 0 rfl rfl 6 (by decide) (hts _ mX0_listOpen_2) (fun _ h9 => h9) rfl dX0_listOpen_24 ?_
        refine lv_imul hx hb dX0_listOpen_27 ?_
        refine lv_iload_n hx hb dX0_listOpen_28 rfl (lv_at hl 2 rfl) ?_
        refine lv_iadd hx hb dX0_listOpen_29 ?_
        refine lv_istore_n (lv' := [(3, .int (((a1 - (t_step (x2_1.toNatClampNeg))) * t_placeCount) + x2_1)), (0, .ref q_t), (1, .int a1), (2, .int x2_1)]) hx hb dX0_listOpen_30 rfl hl (by decide) rfl (fun ls hl => ?_)
        refine lv_aload_n hx hb dX0_listOpen_31 rfl (lv_at hl 1 rfl) ?_
        refine va_get (v := .ref q_t_left) hx hb hts iX0 hown hK hP 0 rfl rfl 9 (by decide) (hts _ mX0_listOpen_4) (fun _ h9 => h9) rfl dX0_listOpen_32 ?_
        refine lv_iload_n hx hb dX0_listOpen_35 rfl (lv_at hl 3 rfl) ?_
        obtain ⟨hi_7, h⟩ := h
        refine vi_ald hx hb hK hP 3 1 rfl rfl hi_7 rfl dX0_listOpen_36 ?_
        obtain ⟨hp_8, hn_8⟩ := h
        refine lv_if_le (tgt := 88) hx hb dX0_listOpen_37 (by decide) (fun hc => ?_) (fun hc => ?_)
        · have h := hp_8 hc
          refine lv_iinc (v := x2_1 + (1 : Int32)) (lv' := [(2, .int (x2_1 + (1 : Int32))), (3, .int (((a1 - (t_step (x2_1.toNatClampNeg))) * t_placeCount) + x2_1)), (0, .ref q_t), (1, .int a1)]) hx hb dX0_listOpen_88 hl (k := 3) rfl rfl (by decide) rfl (fun ls hl => ?_)
          refine lv_goto (tgt := 7) hx hb dX0_listOpen_91 (by decide) ?_
          exact ih_7 (x2_1 + (1 : Int32)) t_open_2 t_ahead_3 t_openCount_4 _ _ _ h hP hD hS (lv_sub hl [2, 3, 0] rfl)
        · have h := hn_8 hc
          refine lv_iload_n hx hb dX0_listOpen_40 rfl (lv_at hl 0 rfl) ?_
          obtain ⟨hp_9, hn_9⟩ := h
          refine lv_if_lt (tgt := 88) hx hb dX0_listOpen_41 (by decide) (fun hc => ?_) (fun hc => ?_)
          · have h := hp_9 hc
            refine lv_iinc (v := x2_1 + (1 : Int32)) (lv' := [(2, .int (x2_1 + (1 : Int32))), (3, .int (((a1 - (t_step (x2_1.toNatClampNeg))) * t_placeCount) + x2_1)), (0, .ref q_t), (1, .int a1)]) hx hb dX0_listOpen_88 hl (k := 3) rfl rfl (by decide) rfl (fun ls hl => ?_)
            refine lv_goto (tgt := 7) hx hb dX0_listOpen_91 (by decide) ?_
            exact ih_7 (x2_1 + (1 : Int32)) t_open_2 t_ahead_3 t_openCount_4 _ _ _ h hP hD hS (lv_sub hl [2, 3, 0] rfl)
          · have h := hn_9 hc
            refine lv_iload_n hx hb dX0_listOpen_44 rfl (lv_at hl 0 rfl) ?_
            refine lv_aload_n hx hb dX0_listOpen_45 rfl (lv_at hl 1 rfl) ?_
            refine va_get (v := .ref q_t_fewest) hx hb hts iX0 hown hK hP 0 rfl rfl 8 (by decide) (hts _ mX0_listOpen_5) (fun _ h9 => h9) rfl dX0_listOpen_46 ?_
            refine va_alen (v := Int32.ofNat n_t_fewest) hx hb hK hP 2 0 rfl rfl rfl dX0_listOpen_49 ?_
            obtain ⟨hp_10, hn_10⟩ := h
            refine lv_icmp_ge (tgt := 88) hx hb dX0_listOpen_50 (by decide) (fun hc => ?_) (fun hc => ?_)
            · have h := hp_10 hc
              refine lv_iinc (v := x2_1 + (1 : Int32)) (lv' := [(2, .int (x2_1 + (1 : Int32))), (3, .int (((a1 - (t_step (x2_1.toNatClampNeg))) * t_placeCount) + x2_1)), (0, .ref q_t), (1, .int a1)]) hx hb dX0_listOpen_88 hl (k := 3) rfl rfl (by decide) rfl (fun ls hl => ?_)
              refine lv_goto (tgt := 7) hx hb dX0_listOpen_91 (by decide) ?_
              exact ih_7 (x2_1 + (1 : Int32)) t_open_2 t_ahead_3 t_openCount_4 _ _ _ h hP hD hS (lv_sub hl [2, 3, 0] rfl)
            · have h := hn_10 hc
              refine lv_aload_n hx hb dX0_listOpen_53 rfl (lv_at hl 1 rfl) ?_
              refine va_get (v := .ref q_t_open) hx hb hts iX0 hown hK hP 0 rfl rfl 10 (by decide) (hts _ mX0_listOpen_6) (fun _ h9 => h9) rfl dX0_listOpen_54 ?_
              refine lv_aload_n hx hb dX0_listOpen_57 rfl (lv_at hl 1 rfl) ?_
              refine va_get (v := .int t_openCount_4) hx hb hts iX0 hown hK hP 0 rfl rfl 12 (by decide) (hts _ mX0_listOpen_1) (fun _ h9 => h9) rfl dX0_listOpen_58 ?_
              refine lv_iload_n hx hb dX0_listOpen_61 rfl (lv_at hl 3 rfl) ?_
              obtain ⟨hi_11, h⟩ := h
              refine vi_ast (x := x2_1) hx hb hK hP hD hS 4 1 rfl rfl hi_11 rfl dX0_listOpen_62 (fun H locs hP hD hS => ?_)
              have hP : va_P D vwCl ([(q_t, .inr (0, [.ref q_t_askedTimes, .int t_asked, .ref q_t_places, .ref q_t_stock, .ref q_t_step, .ref q_t_gaps, .int t_placeCount, .int t_codes, .ref q_t_fewest, .ref q_t_left, .ref q_t_open, .ref q_t_ahead, .int t_openCount_4, .ref q_t_chained, .int t_changes])), (q_t_step, .inl (cI, 12, .inl t_step)), (q_t_fewest, .inl (cB, n_t_fewest, .inl t_fewest)), (q_t_left, .inl (cI, 12, .inl t_left)), (q_t_open, .inl (cI, 12, .inl (upd t_open_2 (t_openCount_4.toNatClampNeg) x2_1))), (q_t_ahead, .inl (cI, 12, .inl t_ahead_3))]) H := hP
              have hD : va_D A ([(q_t, .inr (0, [.ref q_t_askedTimes, .int t_asked, .ref q_t_places, .ref q_t_stock, .ref q_t_step, .ref q_t_gaps, .int t_placeCount, .int t_codes, .ref q_t_fewest, .ref q_t_left, .ref q_t_open, .ref q_t_ahead, .int t_openCount_4, .ref q_t_chained, .int t_changes])), (q_t_step, .inl (cI, 12, .inl t_step)), (q_t_fewest, .inl (cB, n_t_fewest, .inl t_fewest)), (q_t_left, .inl (cI, 12, .inl t_left)), (q_t_open, .inl (cI, 12, .inl (upd t_open_2 (t_openCount_4.toNatClampNeg) x2_1))), (q_t_ahead, .inl (cI, 12, .inl t_ahead_3))]) := hD
              refine lv_aload_n hx hb dX0_listOpen_63 rfl (lv_at hl 1 rfl) ?_
              refine va_get (v := .ref q_t_ahead) hx hb hts iX0 hown hK hP 0 rfl rfl 11 (by decide) (hts _ mX0_listOpen_7) (fun _ h9 => h9) rfl dX0_listOpen_64 ?_
              refine lv_aload_n hx hb dX0_listOpen_67 rfl (lv_at hl 1 rfl) ?_
              refine va_get (v := .int t_openCount_4) hx hb hts iX0 hown hK hP 0 rfl rfl 12 (by decide) (hts _ mX0_listOpen_1) (fun _ h9 => h9) rfl dX0_listOpen_68 ?_
              refine lv_aload_n hx hb dX0_listOpen_71 rfl (lv_at hl 1 rfl) ?_
              refine va_get (v := .ref q_t_fewest) hx hb hts iX0 hown hK hP 0 rfl rfl 8 (by decide) (hts _ mX0_listOpen_5) (fun _ h9 => h9) rfl dX0_listOpen_72 ?_
              refine lv_iload_n hx hb dX0_listOpen_75 rfl (lv_at hl 0 rfl) ?_
              obtain ⟨hi_12, h⟩ := h
              refine vb_ald hx hb hK hP 2 0 rfl rfl hi_12 rfl dX0_listOpen_76 ?_
              obtain ⟨hi_13, h⟩ := h
              refine vi_ast (x := t_fewest ((((a1 - (t_step (x2_1.toNatClampNeg))) * t_placeCount) + x2_1).toNatClampNeg)) hx hb hK hP hD hS 5 1 rfl rfl hi_13 rfl dX0_listOpen_77 (fun H locs hP hD hS => ?_)
              have hP : va_P D vwCl ([(q_t, .inr (0, [.ref q_t_askedTimes, .int t_asked, .ref q_t_places, .ref q_t_stock, .ref q_t_step, .ref q_t_gaps, .int t_placeCount, .int t_codes, .ref q_t_fewest, .ref q_t_left, .ref q_t_open, .ref q_t_ahead, .int t_openCount_4, .ref q_t_chained, .int t_changes])), (q_t_step, .inl (cI, 12, .inl t_step)), (q_t_fewest, .inl (cB, n_t_fewest, .inl t_fewest)), (q_t_left, .inl (cI, 12, .inl t_left)), (q_t_open, .inl (cI, 12, .inl (upd t_open_2 (t_openCount_4.toNatClampNeg) x2_1))), (q_t_ahead, .inl (cI, 12, .inl (upd t_ahead_3 (t_openCount_4.toNatClampNeg) (t_fewest ((((a1 - (t_step (x2_1.toNatClampNeg))) * t_placeCount) + x2_1).toNatClampNeg)))))]) H := hP
              have hD : va_D A ([(q_t, .inr (0, [.ref q_t_askedTimes, .int t_asked, .ref q_t_places, .ref q_t_stock, .ref q_t_step, .ref q_t_gaps, .int t_placeCount, .int t_codes, .ref q_t_fewest, .ref q_t_left, .ref q_t_open, .ref q_t_ahead, .int t_openCount_4, .ref q_t_chained, .int t_changes])), (q_t_step, .inl (cI, 12, .inl t_step)), (q_t_fewest, .inl (cB, n_t_fewest, .inl t_fewest)), (q_t_left, .inl (cI, 12, .inl t_left)), (q_t_open, .inl (cI, 12, .inl (upd t_open_2 (t_openCount_4.toNatClampNeg) x2_1))), (q_t_ahead, .inl (cI, 12, .inl (upd t_ahead_3 (t_openCount_4.toNatClampNeg) (t_fewest ((((a1 - (t_step (x2_1.toNatClampNeg))) * t_placeCount) + x2_1).toNatClampNeg)))))]) := hD
              refine lv_aload_n hx hb dX0_listOpen_78 rfl (lv_at hl 1 rfl) ?_
              refine lv_dup hx hb dX0_listOpen_79 rfl ?_
              refine va_get (v := .int t_openCount_4) hx hb hts iX0 hown hK hP 0 rfl rfl 12 (by decide) (hts _ mX0_listOpen_1) (fun _ h9 => h9) rfl dX0_listOpen_80 ?_
              refine lv_iconst (v := 1) hx hb dX0_listOpen_83 (by decide) ?_
              refine lv_iadd hx hb dX0_listOpen_84 ?_
              refine va_put (v := .int (t_openCount_4 + (1 : Int32))) (ty := .int) hx hb hts iX0 tyX0 tyX0_ok nmX0 hown hK hP hD hS 0 rfl rfl 12 (by decide) (hts _ mX0_listOpen_1) (fun _ h9 => h9) rfl (tyX0_ok 12 (by decide)) rfl rfl (Nat.le_of_ble_eq_true rfl) dX0_listOpen_85 (fun H locs hP hD hS => ?_)
              have hP : va_P D vwCl ([(q_t, .inr (0, [.ref q_t_askedTimes, .int t_asked, .ref q_t_places, .ref q_t_stock, .ref q_t_step, .ref q_t_gaps, .int t_placeCount, .int t_codes, .ref q_t_fewest, .ref q_t_left, .ref q_t_open, .ref q_t_ahead, .int (t_openCount_4 + (1 : Int32)), .ref q_t_chained, .int t_changes])), (q_t_step, .inl (cI, 12, .inl t_step)), (q_t_fewest, .inl (cB, n_t_fewest, .inl t_fewest)), (q_t_left, .inl (cI, 12, .inl t_left)), (q_t_open, .inl (cI, 12, .inl (upd t_open_2 (t_openCount_4.toNatClampNeg) x2_1))), (q_t_ahead, .inl (cI, 12, .inl (upd t_ahead_3 (t_openCount_4.toNatClampNeg) (t_fewest ((((a1 - (t_step (x2_1.toNatClampNeg))) * t_placeCount) + x2_1).toNatClampNeg)))))]) H := hP
              have hD : va_D A ([(q_t, .inr (0, [.ref q_t_askedTimes, .int t_asked, .ref q_t_places, .ref q_t_stock, .ref q_t_step, .ref q_t_gaps, .int t_placeCount, .int t_codes, .ref q_t_fewest, .ref q_t_left, .ref q_t_open, .ref q_t_ahead, .int (t_openCount_4 + (1 : Int32)), .ref q_t_chained, .int t_changes])), (q_t_step, .inl (cI, 12, .inl t_step)), (q_t_fewest, .inl (cB, n_t_fewest, .inl t_fewest)), (q_t_left, .inl (cI, 12, .inl t_left)), (q_t_open, .inl (cI, 12, .inl (upd t_open_2 (t_openCount_4.toNatClampNeg) x2_1))), (q_t_ahead, .inl (cI, 12, .inl (upd t_ahead_3 (t_openCount_4.toNatClampNeg) (t_fewest ((((a1 - (t_step (x2_1.toNatClampNeg))) * t_placeCount) + x2_1).toNatClampNeg)))))]) := hD
              refine lv_iinc (v := x2_1 + (1 : Int32)) (lv' := [(2, .int (x2_1 + (1 : Int32))), (3, .int (((a1 - (t_step (x2_1.toNatClampNeg))) * t_placeCount) + x2_1)), (0, .ref q_t), (1, .int a1)]) hx hb dX0_listOpen_88 hl (k := 3) rfl rfl (by decide) rfl (fun ls hl => ?_)
              refine lv_goto (tgt := 7) hx hb dX0_listOpen_91 (by decide) ?_
              exact ih_7 (x2_1 + (1 : Int32)) (upd t_open_2 (t_openCount_4.toNatClampNeg) x2_1) (upd t_ahead_3 (t_openCount_4.toNatClampNeg) (t_fewest ((((a1 - (t_step (x2_1.toNatClampNeg))) * t_placeCount) + x2_1).toNatClampNeg))) (t_openCount_4 + (1 : Int32)) _ _ _ h hP hD hS (lv_sub hl [2, 3, 0] rfl)
  obtain ⟨n_7, h⟩ := h
  exact hL_7 n_7 (0 : Int32) t_open t_ahead (0 : Int32) _ _ _ h hP hD hS (lv_sub hl [1, 2, 0] rfl)
theorem mX0_countOn_1 : Cond.fieldLink RX0 67 "TrialDesk$ChainSearch" "placeCount" "I" ∈ wsX0_countOn := List.mem_of_getElem? (i := 1) (by decide +kernel)
theorem mX0_countOn_2 : Cond.fieldLink RX0 31 "TrialDesk$ChainSearch" "left" "[I" ∈ wsX0_countOn := List.mem_of_getElem? (i := 2) (by decide +kernel)
theorem mX0_countOn_3 : Cond.fieldLink RX0 18 "TrialDesk$ChainSearch" "stock" "[I" ∈ wsX0_countOn := List.mem_of_getElem? (i := 3) (by decide +kernel)
abbrev rmX0_countOn : Room := { frames := 0, cells := 0, slots := 0, locals := 0 }
set_option maxHeartbeats 4000000 in
set_option maxRecDepth 100000 in
theorem ctX0_countOn (l : Launch) (D : va_G) (cB cI cJ cZ cR : ClassId) (tz : Nat) (q_t : Nat) (q_t_askedTimes : Nat) (q_t_places : Nat) (q_t_stock : Nat) (q_t_step : Nat) (q_t_gaps : Nat) (q_t_fewest : Nat) (q_t_left : Nat) (q_t_open : Nat) (q_t_ahead : Nat) (q_t_chained : Nat) (t_asked : Int32) (t_placeCount : Int32) (t_codes : Int32) (t_openCount : Int32) (t_changes : Int32) (t_stock : (Nat → Int32)) (t_left : (Nat → Int32)) (k : (Nat → Int32) → Prop) (h : wpX0_countOn t_stock t_placeCount t_left k) : MV l yX0_countOn wsX0_countOn rmX0_countOn D (vTy cB cI cJ cZ cR) tz [.ref q_t] ([(q_t, .inr (0, [.ref q_t_askedTimes, .int t_asked, .ref q_t_places, .ref q_t_stock, .ref q_t_step, .ref q_t_gaps, .int t_placeCount, .int t_codes, .ref q_t_fewest, .ref q_t_left, .ref q_t_open, .ref q_t_ahead, .int t_openCount, .ref q_t_chained, .int t_changes])), (q_t_stock, .inl (cI, 12, .inl t_stock)), (q_t_left, .inl (cI, 12, .inl t_left))]) (fun (u : (Nat → Int32)) => k u) (fun (u : (Nat → Int32)) => [(q_t, .inr (0, [.ref q_t_askedTimes, .int t_asked, .ref q_t_places, .ref q_t_stock, .ref q_t_step, .ref q_t_gaps, .int t_placeCount, .int t_codes, .ref q_t_fewest, .ref q_t_left, .ref q_t_open, .ref q_t_ahead, .int t_openCount, .ref q_t_chained, .int t_changes])), (q_t_stock, .inl (cI, 12, .inl t_stock)), (q_t_left, .inl (cI, 12, .inl u))]) 0 0 := by
  refine MV.of (cc := cX0_countOn) (maxL := 2) (ret := none) (by decide) rfl (Nat.le_of_ble_eq_true rfl) ?_
  intro p e s m args below meth c A ls Q hQ E
  obtain ⟨hx, hb, hml, hr, hts, hown, hlk, hin, hP, hK, hD, hS, hA, hT, hl⟩ := E
  have hown : s.vm.findClass RX0 = some m.cls := hown
  have hl : lv_has ls 2 [(0, .ref q_t)] := hl
  have iX0 : ∀ w ∈ wsX00, w ∈ wsX0_countOn := fun _ h => List.mem_cons_of_mem _ (List.mem_append_right _ h)
  unfold wpX0_countOn at h
  refine lv_iconst (v := 0) hx hb dX0_countOn_0 (by decide) ?_
  refine lv_istore_n (lv' := [(1, .int (0 : Int32)), (0, .ref q_t)]) hx hb dX0_countOn_1 rfl hl (by decide) rfl (fun ls hl => ?_)
  have hL_2 : ∀ (n_2 : Nat) (x1_1 : Int32) (t_left_2 : (Nat → Int32)) (H : Heap) (locs : List Loc) (ls : Array Slot), wl (wbX0_countOn_2 t_placeCount t_stock k) n_2 (x1_1, t_left_2) → va_P D vwCl ([(q_t, .inr (0, [.ref q_t_askedTimes, .int t_asked, .ref q_t_places, .ref q_t_stock, .ref q_t_step, .ref q_t_gaps, .int t_placeCount, .int t_codes, .ref q_t_fewest, .ref q_t_left, .ref q_t_open, .ref q_t_ahead, .int t_openCount, .ref q_t_chained, .int t_changes])), (q_t_stock, .inl (cI, 12, .inl t_stock)), (q_t_left, .inl (cI, 12, .inl t_left_2))]) H → va_D A ([(q_t, .inr (0, [.ref q_t_askedTimes, .int t_asked, .ref q_t_places, .ref q_t_stock, .ref q_t_step, .ref q_t_gaps, .int t_placeCount, .int t_codes, .ref q_t_fewest, .ref q_t_left, .ref q_t_open, .ref q_t_ahead, .int t_openCount, .ref q_t_chained, .int t_changes])), (q_t_stock, .inl (cI, 12, .inl t_stock)), (q_t_left, .inl (cI, 12, .inl t_left_2))]) → va_S A s.heap H locs → lv_has ls 2 [(0, .ref q_t), (1, .int x1_1)] → W p l e rmX0_countOn s m args below meth c H locs 0 0 Q (F0 m 2 ls []) := by
    intro n_2
    induction n_2 with
    | zero => intro x1_1 t_left_2 H locs ls h; exact h.elim
    | succ n_2 ih_2 =>
      intro x1_1 t_left_2 H locs ls h hP hD hS hl
      rw [wl, wbX0_countOn_2] at h
      refine lv_iload_n hx hb dX0_countOn_2 rfl (lv_at hl 1 rfl) ?_
      refine lv_aload_n hx hb dX0_countOn_3 rfl (lv_at hl 0 rfl) ?_
      refine va_get (v := .int t_placeCount) hx hb hts iX0 hown hK hP 0 rfl rfl 6 (by decide) (hts _ mX0_countOn_1) (fun _ h9 => h9) rfl dX0_countOn_4 ?_
      obtain ⟨hp_3, hn_3⟩ := h
      refine lv_icmp_ge (tgt := 49) hx hb dX0_countOn_7 (by decide) (fun hc => ?_) (fun hc => ?_)
      · have h := hp_3 hc
        subst hQ
        exact vr_V t_left_2 hx hb hr hlk hP hD hS [0, 1, 2] rfl rfl h dX0_countOn_49
      · have h := hn_3 hc
        refine lv_aload_n hx hb dX0_countOn_10 rfl (lv_at hl 0 rfl) ?_
        refine va_get (v := .ref q_t_left) hx hb hts iX0 hown hK hP 0 rfl rfl 9 (by decide) (hts _ mX0_countOn_2) (fun _ h9 => h9) rfl dX0_countOn_11 ?_
        refine lv_iload_n hx hb dX0_countOn_14 rfl (lv_at hl 1 rfl) ?_
        obtain ⟨hi_4, h⟩ := h
        refine vi_ald hx hb hK hP 2 1 rfl rfl hi_4 rfl dX0_countOn_15 ?_
        refine lv_aload_n hx hb dX0_countOn_16 rfl (lv_at hl 0 rfl) ?_
        refine va_get (v := .ref q_t_stock) hx hb hts iX0 hown hK hP 0 rfl rfl 3 (by decide) (hts _ mX0_countOn_3) (fun _ h9 => h9) rfl dX0_countOn_17 ?_
        refine lv_iload_n hx hb dX0_countOn_20 rfl (lv_at hl 1 rfl) ?_
        obtain ⟨hi_5, h⟩ := h
        refine vi_ald hx hb hK hP 1 1 rfl rfl hi_5 rfl dX0_countOn_21 ?_
        obtain ⟨hp_6, hn_6⟩ := h
        refine lv_icmp_ge (tgt := 36) hx hb dX0_countOn_22 (by decide) (fun hc => ?_) (fun hc => ?_)
        · have h := hp_6 hc
          refine lv_aload_n hx hb dX0_countOn_36 rfl (lv_at hl 0 rfl) ?_
          refine va_get (v := .ref q_t_left) hx hb hts iX0 hown hK hP 0 rfl rfl 9 (by decide) (hts _ mX0_countOn_2) (fun _ h9 => h9) rfl dX0_countOn_37 ?_
          refine lv_iload_n hx hb dX0_countOn_40 rfl (lv_at hl 1 rfl) ?_
          refine lv_iconst (v := 0) hx hb dX0_countOn_41 (by decide) ?_
          obtain ⟨hi_7, h⟩ := h
          refine vi_ast (x := (0 : Int32)) hx hb hK hP hD hS 2 1 rfl rfl hi_7 rfl dX0_countOn_42 (fun H locs hP hD hS => ?_)
          have hP : va_P D vwCl ([(q_t, .inr (0, [.ref q_t_askedTimes, .int t_asked, .ref q_t_places, .ref q_t_stock, .ref q_t_step, .ref q_t_gaps, .int t_placeCount, .int t_codes, .ref q_t_fewest, .ref q_t_left, .ref q_t_open, .ref q_t_ahead, .int t_openCount, .ref q_t_chained, .int t_changes])), (q_t_stock, .inl (cI, 12, .inl t_stock)), (q_t_left, .inl (cI, 12, .inl (upd t_left_2 (x1_1.toNatClampNeg) (0 : Int32))))]) H := hP
          have hD : va_D A ([(q_t, .inr (0, [.ref q_t_askedTimes, .int t_asked, .ref q_t_places, .ref q_t_stock, .ref q_t_step, .ref q_t_gaps, .int t_placeCount, .int t_codes, .ref q_t_fewest, .ref q_t_left, .ref q_t_open, .ref q_t_ahead, .int t_openCount, .ref q_t_chained, .int t_changes])), (q_t_stock, .inl (cI, 12, .inl t_stock)), (q_t_left, .inl (cI, 12, .inl (upd t_left_2 (x1_1.toNatClampNeg) (0 : Int32))))]) := hD
          refine lv_iinc (v := x1_1 + (1 : Int32)) (lv' := [(1, .int (x1_1 + (1 : Int32))), (0, .ref q_t)]) hx hb dX0_countOn_43 hl (k := 1) rfl rfl (by decide) rfl (fun ls hl => ?_)
          refine lv_goto (tgt := 2) hx hb dX0_countOn_46 (by decide) ?_
          exact ih_2 (x1_1 + (1 : Int32)) (upd t_left_2 (x1_1.toNatClampNeg) (0 : Int32)) _ _ _ h hP hD hS (lv_sub hl [1, 0] rfl)
        · have h := hn_6 hc
          refine lv_aload_n hx hb dX0_countOn_25 rfl (lv_at hl 0 rfl) ?_
          refine va_get (v := .ref q_t_left) hx hb hts iX0 hown hK hP 0 rfl rfl 9 (by decide) (hts _ mX0_countOn_2) (fun _ h9 => h9) rfl dX0_countOn_26 ?_
          refine lv_iload_n hx hb dX0_countOn_29 rfl (lv_at hl 1 rfl) ?_
          refine lv_dup2_11 hx hb dX0_countOn_30 rfl rfl ?_
          obtain ⟨hi_8, h⟩ := h
          refine vi_ald hx hb hK hP 2 1 rfl rfl hi_8 rfl dX0_countOn_31 ?_
          refine lv_iconst (v := 1) hx hb dX0_countOn_32 (by decide) ?_
          refine lv_iadd hx hb dX0_countOn_33 ?_
          obtain ⟨hi_9, h⟩ := h
          refine vi_ast (x := (t_left_2 (x1_1.toNatClampNeg)) + (1 : Int32)) hx hb hK hP hD hS 2 1 rfl rfl hi_9 rfl dX0_countOn_34 (fun H locs hP hD hS => ?_)
          have hP : va_P D vwCl ([(q_t, .inr (0, [.ref q_t_askedTimes, .int t_asked, .ref q_t_places, .ref q_t_stock, .ref q_t_step, .ref q_t_gaps, .int t_placeCount, .int t_codes, .ref q_t_fewest, .ref q_t_left, .ref q_t_open, .ref q_t_ahead, .int t_openCount, .ref q_t_chained, .int t_changes])), (q_t_stock, .inl (cI, 12, .inl t_stock)), (q_t_left, .inl (cI, 12, .inl (upd t_left_2 (x1_1.toNatClampNeg) ((t_left_2 (x1_1.toNatClampNeg)) + (1 : Int32)))))]) H := hP
          have hD : va_D A ([(q_t, .inr (0, [.ref q_t_askedTimes, .int t_asked, .ref q_t_places, .ref q_t_stock, .ref q_t_step, .ref q_t_gaps, .int t_placeCount, .int t_codes, .ref q_t_fewest, .ref q_t_left, .ref q_t_open, .ref q_t_ahead, .int t_openCount, .ref q_t_chained, .int t_changes])), (q_t_stock, .inl (cI, 12, .inl t_stock)), (q_t_left, .inl (cI, 12, .inl (upd t_left_2 (x1_1.toNatClampNeg) ((t_left_2 (x1_1.toNatClampNeg)) + (1 : Int32)))))]) := hD
          subst hQ
          exact vr_V (upd t_left_2 (x1_1.toNatClampNeg) ((t_left_2 (x1_1.toNatClampNeg)) + (1 : Int32))) hx hb hr hlk hP hD hS [0, 1, 2] rfl rfl h dX0_countOn_35
  obtain ⟨n_2, h⟩ := h
  exact hL_2 n_2 (0 : Int32) t_left _ _ _ h hP hD hS (lv_sub hl [1, 0] rfl)
theorem mX0_firstLeast_1 : Cond.fieldLink RX0 105 "TrialDesk$ChainSearch" "openCount" "I" ∈ wsX0_firstLeast := List.mem_of_getElem? (i := 1) (by decide +kernel)
theorem mX0_firstLeast_2 : Cond.fieldLink RX0 24 "TrialDesk$ChainSearch" "gaps" "[I" ∈ wsX0_firstLeast := List.mem_of_getElem? (i := 2) (by decide +kernel)
theorem mX0_firstLeast_3 : Cond.fieldLink RX0 34 "TrialDesk$ChainSearch" "open" "[I" ∈ wsX0_firstLeast := List.mem_of_getElem? (i := 3) (by decide +kernel)
theorem mX0_firstLeast_4 : Cond.fieldLink RX0 37 "TrialDesk$ChainSearch" "ahead" "[I" ∈ wsX0_firstLeast := List.mem_of_getElem? (i := 4) (by decide +kernel)
abbrev rmX0_firstLeast : Room := { frames := 0, cells := 0, slots := 0, locals := 0 }
set_option maxHeartbeats 4000000 in
set_option maxRecDepth 100000 in
theorem ctX0_firstLeast (l : Launch) (D : va_G) (cB cI cJ cZ cR : ClassId) (tz : Nat) (q_t : Nat) (q_t_askedTimes : Nat) (q_t_places : Nat) (q_t_stock : Nat) (q_t_step : Nat) (q_t_gaps : Nat) (q_t_fewest : Nat) (q_t_left : Nat) (q_t_open : Nat) (q_t_ahead : Nat) (q_t_chained : Nat) (t_asked : Int32) (t_placeCount : Int32) (t_codes : Int32) (t_openCount : Int32) (t_changes : Int32) (t_gaps : (Nat → Int32)) (t_open : (Nat → Int32)) (t_ahead : (Nat → Int32)) (a1 : Int32) (k : Int32 → Prop) (h : wpX0_firstLeast t_gaps t_open t_ahead t_openCount a1 k) : MI l yX0_firstLeast wsX0_firstLeast rmX0_firstLeast D (vTy cB cI cJ cZ cR) tz [.ref q_t, .int a1] ([(q_t, .inr (0, [.ref q_t_askedTimes, .int t_asked, .ref q_t_places, .ref q_t_stock, .ref q_t_step, .ref q_t_gaps, .int t_placeCount, .int t_codes, .ref q_t_fewest, .ref q_t_left, .ref q_t_open, .ref q_t_ahead, .int t_openCount, .ref q_t_chained, .int t_changes])), (q_t_gaps, .inl (cI, 156, .inl t_gaps)), (q_t_open, .inl (cI, 12, .inl t_open)), (q_t_ahead, .inl (cI, 12, .inl t_ahead))]) (fun (r : Int32) (u : Unit) => k r) (fun (u : Unit) => [(q_t, .inr (0, [.ref q_t_askedTimes, .int t_asked, .ref q_t_places, .ref q_t_stock, .ref q_t_step, .ref q_t_gaps, .int t_placeCount, .int t_codes, .ref q_t_fewest, .ref q_t_left, .ref q_t_open, .ref q_t_ahead, .int t_openCount, .ref q_t_chained, .int t_changes])), (q_t_gaps, .inl (cI, 156, .inl t_gaps)), (q_t_open, .inl (cI, 12, .inl t_open)), (q_t_ahead, .inl (cI, 12, .inl t_ahead))]) 0 0 := by
  refine MI.of (cc := cX0_firstLeast) (maxL := 7) (ret := (some .int)) (by decide) rfl (Nat.le_of_ble_eq_true rfl) ?_
  intro p e s m args below meth c A ls Q hQ E
  obtain ⟨hx, hb, hml, hr, hts, hown, hlk, hin, hP, hK, hD, hS, hA, hT, hl⟩ := E
  have hown : s.vm.findClass RX0 = some m.cls := hown
  have hl : lv_has ls 7 [(0, .ref q_t), (1, .int a1)] := hl
  have iX0 : ∀ w ∈ wsX00, w ∈ wsX0_firstLeast := fun _ h => List.mem_cons_of_mem _ (List.mem_append_right _ h)
  unfold wpX0_firstLeast at h
  refine lv_iload_n hx hb dX0_firstLeast_0 rfl (lv_at hl 1 rfl) ?_
  refine lv_bipush (v := 12) hx hb dX0_firstLeast_1 (by decide) ?_
  refine lv_imul hx hb dX0_firstLeast_3 ?_
  refine lv_istore_n (lv' := [(2, .int (a1 * (12 : Int32))), (0, .ref q_t), (1, .int a1)]) hx hb dX0_firstLeast_4 rfl hl (by decide) rfl (fun ls hl => ?_)
  refine lv_iconst (v := 0) hx hb dX0_firstLeast_5 (by decide) ?_
  refine lv_istore_n (lv' := [(3, .int (0 : Int32)), (2, .int (a1 * (12 : Int32))), (0, .ref q_t), (1, .int a1)]) hx hb dX0_firstLeast_6 rfl hl (by decide) rfl (fun ls hl => ?_)
  refine lv_bipush (v := 72) hx hb dX0_firstLeast_7 (by decide) ?_
  refine lv_istore (lv' := [(4, .int (72 : Int32)), (3, .int (0 : Int32)), (2, .int (a1 * (12 : Int32))), (0, .ref q_t), (1, .int a1)]) hx hb dX0_firstLeast_9 hl (by decide) rfl (fun ls hl => ?_)
  refine lv_iconst (v := 0) hx hb dX0_firstLeast_11 (by decide) ?_
  refine lv_istore (lv' := [(5, .int (0 : Int32)), (4, .int (72 : Int32)), (3, .int (0 : Int32)), (2, .int (a1 * (12 : Int32))), (0, .ref q_t), (1, .int a1)]) hx hb dX0_firstLeast_12 hl (by decide) rfl (fun ls hl => ?_)
  have hL_14 : ∀ (n_14 : Nat) (x3_1 : Int32) (x4_2 : Int32) (x5_3 : Int32) (H : Heap) (locs : List Loc) (ls : Array Slot), wl (wbX0_firstLeast_14 t_openCount t_gaps t_open t_ahead a1 k) n_14 (x3_1, x4_2, x5_3) → va_P D vwCl ([(q_t, .inr (0, [.ref q_t_askedTimes, .int t_asked, .ref q_t_places, .ref q_t_stock, .ref q_t_step, .ref q_t_gaps, .int t_placeCount, .int t_codes, .ref q_t_fewest, .ref q_t_left, .ref q_t_open, .ref q_t_ahead, .int t_openCount, .ref q_t_chained, .int t_changes])), (q_t_gaps, .inl (cI, 156, .inl t_gaps)), (q_t_open, .inl (cI, 12, .inl t_open)), (q_t_ahead, .inl (cI, 12, .inl t_ahead))]) H → va_D A ([(q_t, .inr (0, [.ref q_t_askedTimes, .int t_asked, .ref q_t_places, .ref q_t_stock, .ref q_t_step, .ref q_t_gaps, .int t_placeCount, .int t_codes, .ref q_t_fewest, .ref q_t_left, .ref q_t_open, .ref q_t_ahead, .int t_openCount, .ref q_t_chained, .int t_changes])), (q_t_gaps, .inl (cI, 156, .inl t_gaps)), (q_t_open, .inl (cI, 12, .inl t_open)), (q_t_ahead, .inl (cI, 12, .inl t_ahead))]) → va_S A s.heap H locs → lv_has ls 7 [(0, .ref q_t), (2, .int (a1 * (12 : Int32))), (3, .int x3_1), (4, .int x4_2), (5, .int x5_3)] → W p l e rmX0_firstLeast s m args below meth c H locs 0 0 Q (F0 m 14 ls []) := by
    intro n_14
    induction n_14 with
    | zero => intro x3_1 x4_2 x5_3 H locs ls h; exact h.elim
    | succ n_14 ih_14 =>
      intro x3_1 x4_2 x5_3 H locs ls h hP hD hS hl
      rw [wl, wbX0_firstLeast_14] at h
      refine lv_iload hx hb dX0_firstLeast_14 (lv_at hl 4 rfl) ?_
      refine lv_aload_n hx hb dX0_firstLeast_16 rfl (lv_at hl 0 rfl) ?_
      refine va_get (v := .int t_openCount) hx hb hts iX0 hown hK hP 0 rfl rfl 12 (by decide) (hts _ mX0_firstLeast_1) (fun _ h9 => h9) rfl dX0_firstLeast_17 ?_
      obtain ⟨hp_4, hn_4⟩ := h
      refine lv_icmp_ge (tgt := 67) hx hb dX0_firstLeast_20 (by decide) (fun hc => ?_) (fun hc => ?_)
      · have h := hp_4 hc
        refine lv_iload_n hx hb dX0_firstLeast_67 rfl (lv_at hl 2 rfl) ?_
        subst hQ
        exact vr_I (v := x3_1) () hx hb hr hlk hP hD hS [0, 1, 2, 3] rfl rfl h dX0_firstLeast_68
      · have h := hn_4 hc
        refine lv_aload_n hx hb dX0_firstLeast_23 rfl (lv_at hl 0 rfl) ?_
        refine va_get (v := .ref q_t_gaps) hx hb hts iX0 hown hK hP 0 rfl rfl 5 (by decide) (hts _ mX0_firstLeast_2) (fun _ h9 => h9) rfl dX0_firstLeast_24 ?_
        refine lv_iload_n hx hb dX0_firstLeast_27 rfl (lv_at hl 1 rfl) ?_
        refine lv_aload_n hx hb dX0_firstLeast_28 rfl (lv_at hl 0 rfl) ?_
        refine va_get (v := .ref q_t_open) hx hb hts iX0 hown hK hP 0 rfl rfl 10 (by decide) (hts _ mX0_firstLeast_3) (fun _ h9 => h9) rfl dX0_firstLeast_29 ?_
        refine lv_iload hx hb dX0_firstLeast_32 (lv_at hl 4 rfl) ?_
        obtain ⟨hi_5, h⟩ := h
        refine vi_ald hx hb hK hP 2 1 rfl rfl hi_5 rfl dX0_firstLeast_34 ?_
        refine lv_iadd hx hb dX0_firstLeast_35 ?_
        obtain ⟨hi_6, h⟩ := h
        refine vi_ald hx hb hK hP 1 1 rfl rfl hi_6 rfl dX0_firstLeast_36 ?_
        refine lv_aload_n hx hb dX0_firstLeast_37 rfl (lv_at hl 0 rfl) ?_
        refine va_get (v := .ref q_t_ahead) hx hb hts iX0 hown hK hP 0 rfl rfl 11 (by decide) (hts _ mX0_firstLeast_4) (fun _ h9 => h9) rfl dX0_firstLeast_38 ?_
        refine lv_iload hx hb dX0_firstLeast_41 (lv_at hl 4 rfl) ?_
        obtain ⟨hi_7, h⟩ := h
        refine vi_ald hx hb hK hP 3 1 rfl rfl hi_7 rfl dX0_firstLeast_43 ?_
        refine lv_iadd hx hb dX0_firstLeast_44 ?_
        refine lv_istore (lv' := [(6, .int ((t_gaps (((a1 * (12 : Int32)) + (t_open (x5_3.toNatClampNeg))).toNatClampNeg)) + (t_ahead (x5_3.toNatClampNeg)))), (0, .ref q_t), (2, .int (a1 * (12 : Int32))), (3, .int x3_1), (4, .int x4_2), (5, .int x5_3)]) hx hb dX0_firstLeast_45 hl (by decide) rfl (fun ls hl => ?_)
        refine lv_iload hx hb dX0_firstLeast_47 (lv_at hl 0 rfl) ?_
        refine lv_iload hx hb dX0_firstLeast_49 (lv_at hl 4 rfl) ?_
        obtain ⟨hp_8, hn_8⟩ := h
        refine lv_icmp_ge (tgt := 61) hx hb dX0_firstLeast_51 (by decide) (fun hc => ?_) (fun hc => ?_)
        · have h := hp_8 hc
          refine lv_iinc (v := x5_3 + (1 : Int32)) (lv' := [(5, .int (x5_3 + (1 : Int32))), (6, .int ((t_gaps (((a1 * (12 : Int32)) + (t_open (x5_3.toNatClampNeg))).toNatClampNeg)) + (t_ahead (x5_3.toNatClampNeg)))), (0, .ref q_t), (2, .int (a1 * (12 : Int32))), (3, .int x3_1), (4, .int x4_2)]) hx hb dX0_firstLeast_61 hl (k := 5) rfl rfl (by decide) rfl (fun ls hl => ?_)
          refine lv_goto (tgt := 14) hx hb dX0_firstLeast_64 (by decide) ?_
          exact ih_14 x3_1 x4_2 (x5_3 + (1 : Int32)) _ _ _ h hP hD hS (lv_sub hl [2, 3, 4, 5, 0] rfl)
        · have h := hn_8 hc
          refine lv_iload hx hb dX0_firstLeast_54 (lv_at hl 0 rfl) ?_
          refine lv_istore (lv' := [(4, .int ((t_gaps (((a1 * (12 : Int32)) + (t_open (x5_3.toNatClampNeg))).toNatClampNeg)) + (t_ahead (x5_3.toNatClampNeg)))), (6, .int ((t_gaps (((a1 * (12 : Int32)) + (t_open (x5_3.toNatClampNeg))).toNatClampNeg)) + (t_ahead (x5_3.toNatClampNeg)))), (0, .ref q_t), (2, .int (a1 * (12 : Int32))), (3, .int x3_1), (5, .int x5_3)]) hx hb dX0_firstLeast_56 hl (by decide) rfl (fun ls hl => ?_)
          refine lv_iload hx hb dX0_firstLeast_58 (lv_at hl 5 rfl) ?_
          refine lv_istore_n (lv' := [(3, .int x5_3), (4, .int ((t_gaps (((a1 * (12 : Int32)) + (t_open (x5_3.toNatClampNeg))).toNatClampNeg)) + (t_ahead (x5_3.toNatClampNeg)))), (6, .int ((t_gaps (((a1 * (12 : Int32)) + (t_open (x5_3.toNatClampNeg))).toNatClampNeg)) + (t_ahead (x5_3.toNatClampNeg)))), (0, .ref q_t), (2, .int (a1 * (12 : Int32))), (5, .int x5_3)]) hx hb dX0_firstLeast_60 rfl hl (by decide) rfl (fun ls hl => ?_)
          refine lv_iinc (v := x5_3 + (1 : Int32)) (lv' := [(5, .int (x5_3 + (1 : Int32))), (3, .int x5_3), (4, .int ((t_gaps (((a1 * (12 : Int32)) + (t_open (x5_3.toNatClampNeg))).toNatClampNeg)) + (t_ahead (x5_3.toNatClampNeg)))), (6, .int ((t_gaps (((a1 * (12 : Int32)) + (t_open (x5_3.toNatClampNeg))).toNatClampNeg)) + (t_ahead (x5_3.toNatClampNeg)))), (0, .ref q_t), (2, .int (a1 * (12 : Int32)))]) hx hb dX0_firstLeast_61 hl (k := 5) rfl rfl (by decide) rfl (fun ls hl => ?_)
          refine lv_goto (tgt := 14) hx hb dX0_firstLeast_64 (by decide) ?_
          exact ih_14 x5_3 ((t_gaps (((a1 * (12 : Int32)) + (t_open (x5_3.toNatClampNeg))).toNatClampNeg)) + (t_ahead (x5_3.toNatClampNeg))) (x5_3 + (1 : Int32)) _ _ _ h hP hD hS (lv_sub hl [4, 5, 1, 2, 0] rfl)
  obtain ⟨n_14, h⟩ := h
  exact hL_14 n_14 (0 : Int32) (72 : Int32) (0 : Int32) _ _ _ h hP hD hS (lv_sub hl [4, 3, 2, 1, 0] rfl)
theorem mX0_changesBy_1 : Cond.fieldLink RX0 24 "TrialDesk$ChainSearch" "gaps" "[I" ∈ wsX0_changesBy := List.mem_of_getElem? (i := 1) (by decide +kernel)
theorem mX0_changesBy_2 : Cond.fieldLink RX0 34 "TrialDesk$ChainSearch" "open" "[I" ∈ wsX0_changesBy := List.mem_of_getElem? (i := 2) (by decide +kernel)
theorem mX0_changesBy_3 : Cond.fieldLink RX0 37 "TrialDesk$ChainSearch" "ahead" "[I" ∈ wsX0_changesBy := List.mem_of_getElem? (i := 3) (by decide +kernel)
abbrev rmX0_changesBy : Room := { frames := 0, cells := 0, slots := 0, locals := 0 }
set_option maxHeartbeats 4000000 in
set_option maxRecDepth 100000 in
theorem ctX0_changesBy (l : Launch) (D : va_G) (cB cI cJ cZ cR : ClassId) (tz : Nat) (q_t : Nat) (q_t_askedTimes : Nat) (q_t_places : Nat) (q_t_stock : Nat) (q_t_step : Nat) (q_t_gaps : Nat) (q_t_fewest : Nat) (q_t_left : Nat) (q_t_open : Nat) (q_t_ahead : Nat) (q_t_chained : Nat) (t_asked : Int32) (t_placeCount : Int32) (t_codes : Int32) (t_openCount : Int32) (t_changes : Int32) (t_gaps : (Nat → Int32)) (t_open : (Nat → Int32)) (t_ahead : (Nat → Int32)) (a1 : Int32) (a2 : Int32) (k : Int32 → Prop) (h : wpX0_changesBy t_gaps t_open t_ahead a1 a2 k) : MI l yX0_changesBy wsX0_changesBy rmX0_changesBy D (vTy cB cI cJ cZ cR) tz [.ref q_t, .int a1, .int a2] ([(q_t, .inr (0, [.ref q_t_askedTimes, .int t_asked, .ref q_t_places, .ref q_t_stock, .ref q_t_step, .ref q_t_gaps, .int t_placeCount, .int t_codes, .ref q_t_fewest, .ref q_t_left, .ref q_t_open, .ref q_t_ahead, .int t_openCount, .ref q_t_chained, .int t_changes])), (q_t_gaps, .inl (cI, 156, .inl t_gaps)), (q_t_open, .inl (cI, 12, .inl t_open)), (q_t_ahead, .inl (cI, 12, .inl t_ahead))]) (fun (r : Int32) (u : Unit) => k r) (fun (u : Unit) => [(q_t, .inr (0, [.ref q_t_askedTimes, .int t_asked, .ref q_t_places, .ref q_t_stock, .ref q_t_step, .ref q_t_gaps, .int t_placeCount, .int t_codes, .ref q_t_fewest, .ref q_t_left, .ref q_t_open, .ref q_t_ahead, .int t_openCount, .ref q_t_chained, .int t_changes])), (q_t_gaps, .inl (cI, 156, .inl t_gaps)), (q_t_open, .inl (cI, 12, .inl t_open)), (q_t_ahead, .inl (cI, 12, .inl t_ahead))]) 0 0 := by
  refine MI.of (cc := cX0_changesBy) (maxL := 3) (ret := (some .int)) (by decide) rfl (Nat.le_of_ble_eq_true rfl) ?_
  intro p e s m args below meth c A ls Q hQ E
  obtain ⟨hx, hb, hml, hr, hts, hown, hlk, hin, hP, hK, hD, hS, hA, hT, hl⟩ := E
  have hown : s.vm.findClass RX0 = some m.cls := hown
  have hl : lv_has ls 3 [(0, .ref q_t), (1, .int a1), (2, .int a2)] := hl
  have iX0 : ∀ w ∈ wsX00, w ∈ wsX0_changesBy := fun _ h => List.mem_cons_of_mem _ (List.mem_append_right _ h)
  unfold wpX0_changesBy at h
  refine lv_aload_n hx hb dX0_changesBy_0 rfl (lv_at hl 0 rfl) ?_
  refine va_get (v := .ref q_t_gaps) hx hb hts iX0 hown hK hP 0 rfl rfl 5 (by decide) (hts _ mX0_changesBy_1) (fun _ h9 => h9) rfl dX0_changesBy_1 ?_
  refine lv_iload_n hx hb dX0_changesBy_4 rfl (lv_at hl 1 rfl) ?_
  refine lv_bipush (v := 12) hx hb dX0_changesBy_5 (by decide) ?_
  refine lv_imul hx hb dX0_changesBy_7 ?_
  refine lv_aload_n hx hb dX0_changesBy_8 rfl (lv_at hl 0 rfl) ?_
  refine va_get (v := .ref q_t_open) hx hb hts iX0 hown hK hP 0 rfl rfl 10 (by decide) (hts _ mX0_changesBy_2) (fun _ h9 => h9) rfl dX0_changesBy_9 ?_
  refine lv_iload_n hx hb dX0_changesBy_12 rfl (lv_at hl 2 rfl) ?_
  obtain ⟨hi_1, h⟩ := h
  refine vi_ald hx hb hK hP 2 1 rfl rfl hi_1 rfl dX0_changesBy_13 ?_
  refine lv_iadd hx hb dX0_changesBy_14 ?_
  obtain ⟨hi_2, h⟩ := h
  refine vi_ald hx hb hK hP 1 1 rfl rfl hi_2 rfl dX0_changesBy_15 ?_
  refine lv_aload_n hx hb dX0_changesBy_16 rfl (lv_at hl 0 rfl) ?_
  refine va_get (v := .ref q_t_ahead) hx hb hts iX0 hown hK hP 0 rfl rfl 11 (by decide) (hts _ mX0_changesBy_3) (fun _ h9 => h9) rfl dX0_changesBy_17 ?_
  refine lv_iload_n hx hb dX0_changesBy_20 rfl (lv_at hl 2 rfl) ?_
  obtain ⟨hi_3, h⟩ := h
  refine vi_ald hx hb hK hP 3 1 rfl rfl hi_3 rfl dX0_changesBy_21 ?_
  refine lv_iadd hx hb dX0_changesBy_22 ?_
  subst hQ
  exact vr_I (v := (t_gaps (((a1 * (12 : Int32)) + (t_open (a2.toNatClampNeg))).toNatClampNeg)) + (t_ahead (a2.toNatClampNeg))) () hx hb hr hlk hP hD hS [0, 1, 2, 3] rfl rfl h dX0_changesBy_23
theorem mX0_weighStates_1 : Cond.fieldLink RX0 31 "TrialDesk$ChainSearch" "left" "[I" ∈ wsX0_weighStates := List.mem_of_getElem? (i := 1) (by decide +kernel)
theorem mX0_weighStates_2 : Cond.fieldLink RX0 63 "TrialDesk$ChainSearch" "codes" "I" ∈ wsX0_weighStates := List.mem_of_getElem? (i := 2) (by decide +kernel)
theorem mX0_weighStates_3 : Cond.fieldLink RX0 67 "TrialDesk$ChainSearch" "placeCount" "I" ∈ wsX0_weighStates := List.mem_of_getElem? (i := 3) (by decide +kernel)
theorem mX0_weighStates_4 : Cond.fieldLink RX0 18 "TrialDesk$ChainSearch" "stock" "[I" ∈ wsX0_weighStates := List.mem_of_getElem? (i := 4) (by decide +kernel)
theorem mX0_weighStates_5 : Cond.fieldLink RX0 27 "TrialDesk$ChainSearch" "fewest" "[B" ∈ wsX0_weighStates := List.mem_of_getElem? (i := 5) (by decide +kernel)
theorem mX0_weighStates_6 : Cond.fieldLink RX0 105 "TrialDesk$ChainSearch" "openCount" "I" ∈ wsX0_weighStates := List.mem_of_getElem? (i := 6) (by decide +kernel)
abbrev rmX0_weighStates : Room := { frames := 1, cells := 0, slots := 0, locals := 26 }
set_option maxHeartbeats 4000000 in
set_option maxRecDepth 100000 in
theorem ctX0_weighStates (l : Launch) (D : va_G) (cB cI cJ cZ cR : ClassId) (tz : Nat) (q_t : Nat) (q_t_askedTimes : Nat) (q_t_places : Nat) (q_t_stock : Nat) (q_t_step : Nat) (q_t_gaps : Nat) (q_t_fewest : Nat) (q_t_left : Nat) (q_t_open : Nat) (q_t_ahead : Nat) (q_t_chained : Nat) (t_asked : Int32) (t_placeCount : Int32) (t_codes : Int32) (t_openCount : Int32) (t_changes : Int32) (t_stock : (Nat → Int32)) (t_step : (Nat → Int32)) (t_gaps : (Nat → Int32)) (n_t_fewest : Nat) (t_fewest : (Nat → Int32)) (t_left : (Nat → Int32)) (t_open : (Nat → Int32)) (t_ahead : (Nat → Int32)) (k : (Nat → Int32) → (Nat → Int32) → (Nat → Int32) → (Nat → Int32) → Int32 → Prop) (h : wpX0_weighStates t_stock t_step t_gaps t_placeCount t_codes n_t_fewest t_fewest t_left t_open t_ahead t_openCount k) : MV l yX0_weighStates wsX0_weighStates rmX0_weighStates D (vTy cB cI cJ cZ cR) tz [.ref q_t] ([(q_t, .inr (0, [.ref q_t_askedTimes, .int t_asked, .ref q_t_places, .ref q_t_stock, .ref q_t_step, .ref q_t_gaps, .int t_placeCount, .int t_codes, .ref q_t_fewest, .ref q_t_left, .ref q_t_open, .ref q_t_ahead, .int t_openCount, .ref q_t_chained, .int t_changes])), (q_t_stock, .inl (cI, 12, .inl t_stock)), (q_t_step, .inl (cI, 12, .inl t_step)), (q_t_gaps, .inl (cI, 156, .inl t_gaps)), (q_t_fewest, .inl (cB, n_t_fewest, .inl t_fewest)), (q_t_left, .inl (cI, 12, .inl t_left)), (q_t_open, .inl (cI, 12, .inl t_open)), (q_t_ahead, .inl (cI, 12, .inl t_ahead))]) (fun (u : (Nat → Int32) × (Nat → Int32) × (Nat → Int32) × (Nat → Int32) × Int32) => k u.1 u.2.1 u.2.2.1 u.2.2.2.1 u.2.2.2.2) (fun (u : (Nat → Int32) × (Nat → Int32) × (Nat → Int32) × (Nat → Int32) × Int32) => [(q_t, .inr (0, [.ref q_t_askedTimes, .int t_asked, .ref q_t_places, .ref q_t_stock, .ref q_t_step, .ref q_t_gaps, .int t_placeCount, .int t_codes, .ref q_t_fewest, .ref q_t_left, .ref q_t_open, .ref q_t_ahead, .int (u.2.2.2.2), .ref q_t_chained, .int t_changes])), (q_t_stock, .inl (cI, 12, .inl t_stock)), (q_t_step, .inl (cI, 12, .inl t_step)), (q_t_gaps, .inl (cI, 156, .inl t_gaps)), (q_t_fewest, .inl (cB, n_t_fewest, .inl (u.1))), (q_t_left, .inl (cI, 12, .inl (u.2.1))), (q_t_open, .inl (cI, 12, .inl (u.2.2.1))), (q_t_ahead, .inl (cI, 12, .inl (u.2.2.2.1)))]) 0 0 := by
  refine MV.of (cc := cX0_weighStates) (maxL := 4) (ret := none) (by decide) rfl (Nat.le_of_ble_eq_true rfl) ?_
  intro p e s m args below meth c A ls Q hQ E
  obtain ⟨hx, hb, hml, hr, hts, hown, hlk, hin, hP, hK, hD, hS, hA, hT, hl⟩ := E
  have hown : s.vm.findClass RX0 = some m.cls := hown
  have hl : lv_has ls 4 [(0, .ref q_t)] := hl
  have iX0 : ∀ w ∈ wsX00, w ∈ wsX0_weighStates := fun _ h => List.mem_cons_of_mem _ (List.mem_append_right _ h)
  unfold wpX0_weighStates at h
  refine lv_aload_n hx hb dX0_weighStates_0 rfl (lv_at hl 0 rfl) ?_
  refine va_get (v := .ref q_t_left) hx hb hts iX0 hown hK hP 0 rfl rfl 9 (by decide) (hts _ mX0_weighStates_1) (fun _ h9 => h9) rfl dX0_weighStates_1 ?_
  refine lv_iconst (v := 0) hx hb dX0_weighStates_4 (by decide) ?_
  refine vc_SV (As := [.ref q_t_left, .int (0 : Int32)]) (rest := []) (wr := [(q_t, .inr (0, [.ref q_t_askedTimes, .int t_asked, .ref q_t_places, .ref q_t_stock, .ref q_t_step, .ref q_t_gaps, .int t_placeCount, .int t_codes, .ref q_t_fewest, .ref q_t_left, .ref q_t_open, .ref q_t_ahead, .int t_openCount, .ref q_t_chained, .int t_changes])), (q_t_stock, .inl (cI, 12, .inl t_stock)), (q_t_step, .inl (cI, 12, .inl t_step)), (q_t_gaps, .inl (cI, 156, .inl t_gaps)), (q_t_fewest, .inl (cB, n_t_fewest, .inl t_fewest)), (q_t_open, .inl (cI, 12, .inl t_open)), (q_t_ahead, .inl (cI, 12, .inl t_ahead))]) ⟨hx, hb, hml, hown, hts⟩ (cfillI l D cB cI cJ cZ cR tz q_t_left 12 t_left (0 : Int32) (by decide)) (va_cwS 2 hts gX0_weighStates_J7_fill_53178 rfl rfl rfl hdJ7_fill_53178.2 ⟨Nat.le_of_ble_eq_true rfl, Nat.le_of_ble_eq_true rfl⟩) hK hP hD hS hA hT [5] [0, 1, 2, 3, 4, 6, 7] rfl rfl rfl rfl (by decide) rfl rfl hl.1 (Nat.le_of_ble_eq_true rfl) dX0_weighStates_5 ⟨Nat.le_of_ble_eq_true rfl, Nat.le_of_ble_eq_true rfl⟩ (fun u9 H locs h9 hP hD hS => ?_)
  have hP : va_P D vwCl ([(q_t, .inr (0, [.ref q_t_askedTimes, .int t_asked, .ref q_t_places, .ref q_t_stock, .ref q_t_step, .ref q_t_gaps, .int t_placeCount, .int t_codes, .ref q_t_fewest, .ref q_t_left, .ref q_t_open, .ref q_t_ahead, .int t_openCount, .ref q_t_chained, .int t_changes])), (q_t_stock, .inl (cI, 12, .inl t_stock)), (q_t_step, .inl (cI, 12, .inl t_step)), (q_t_gaps, .inl (cI, 156, .inl t_gaps)), (q_t_fewest, .inl (cB, n_t_fewest, .inl t_fewest)), (q_t_left, .inl (cI, 12, .inl (fun _ => (0 : Int32)))), (q_t_open, .inl (cI, 12, .inl t_open)), (q_t_ahead, .inl (cI, 12, .inl t_ahead))]) H := hP.sub [0, 1, 2, 3, 4, 7, 5, 6] rfl
  have hD : va_D A ([(q_t, .inr (0, [.ref q_t_askedTimes, .int t_asked, .ref q_t_places, .ref q_t_stock, .ref q_t_step, .ref q_t_gaps, .int t_placeCount, .int t_codes, .ref q_t_fewest, .ref q_t_left, .ref q_t_open, .ref q_t_ahead, .int t_openCount, .ref q_t_chained, .int t_changes])), (q_t_stock, .inl (cI, 12, .inl t_stock)), (q_t_step, .inl (cI, 12, .inl t_step)), (q_t_gaps, .inl (cI, 156, .inl t_gaps)), (q_t_fewest, .inl (cB, n_t_fewest, .inl t_fewest)), (q_t_left, .inl (cI, 12, .inl (fun _ => (0 : Int32)))), (q_t_open, .inl (cI, 12, .inl t_open)), (q_t_ahead, .inl (cI, 12, .inl t_ahead))]) := hD.sub [0, 1, 2, 3, 4, 7, 5, 6] rfl rfl
  refine lv_iconst (v := 0) hx hb dX0_weighStates_8 (by decide) ?_
  refine lv_istore_n (lv' := [(1, .int (0 : Int32)), (0, .ref q_t)]) hx hb dX0_weighStates_9 rfl hl (by decide) rfl (fun ls hl => ?_)
  have hL_10 : ∀ (n_10 : Nat) (x1_1 : Int32) (t_fewest_2 : (Nat → Int32)) (t_left_3 : (Nat → Int32)) (t_open_4 : (Nat → Int32)) (t_ahead_5 : (Nat → Int32)) (t_openCount_6 : Int32) (H : Heap) (locs : List Loc) (ls : Array Slot), wl (wbX0_weighStates_10 t_placeCount t_codes t_stock t_step t_gaps n_t_fewest k) n_10 (x1_1, t_fewest_2, t_left_3, t_open_4, t_ahead_5, t_openCount_6) → va_P D vwCl ([(q_t, .inr (0, [.ref q_t_askedTimes, .int t_asked, .ref q_t_places, .ref q_t_stock, .ref q_t_step, .ref q_t_gaps, .int t_placeCount, .int t_codes, .ref q_t_fewest, .ref q_t_left, .ref q_t_open, .ref q_t_ahead, .int t_openCount_6, .ref q_t_chained, .int t_changes])), (q_t_stock, .inl (cI, 12, .inl t_stock)), (q_t_step, .inl (cI, 12, .inl t_step)), (q_t_gaps, .inl (cI, 156, .inl t_gaps)), (q_t_fewest, .inl (cB, n_t_fewest, .inl t_fewest_2)), (q_t_left, .inl (cI, 12, .inl t_left_3)), (q_t_open, .inl (cI, 12, .inl t_open_4)), (q_t_ahead, .inl (cI, 12, .inl t_ahead_5))]) H → va_D A ([(q_t, .inr (0, [.ref q_t_askedTimes, .int t_asked, .ref q_t_places, .ref q_t_stock, .ref q_t_step, .ref q_t_gaps, .int t_placeCount, .int t_codes, .ref q_t_fewest, .ref q_t_left, .ref q_t_open, .ref q_t_ahead, .int t_openCount_6, .ref q_t_chained, .int t_changes])), (q_t_stock, .inl (cI, 12, .inl t_stock)), (q_t_step, .inl (cI, 12, .inl t_step)), (q_t_gaps, .inl (cI, 156, .inl t_gaps)), (q_t_fewest, .inl (cB, n_t_fewest, .inl t_fewest_2)), (q_t_left, .inl (cI, 12, .inl t_left_3)), (q_t_open, .inl (cI, 12, .inl t_open_4)), (q_t_ahead, .inl (cI, 12, .inl t_ahead_5))]) → va_S A s.heap H locs → lv_has ls 4 [(0, .ref q_t), (1, .int x1_1)] → W p l e rmX0_weighStates s m args below meth c H locs 0 0 Q (F0 m 10 ls []) := by
    intro n_10
    induction n_10 with
    | zero => intro x1_1 t_fewest_2 t_left_3 t_open_4 t_ahead_5 t_openCount_6 H locs ls h; exact h.elim
    | succ n_10 ih_10 =>
      intro x1_1 t_fewest_2 t_left_3 t_open_4 t_ahead_5 t_openCount_6 H locs ls h hP hD hS hl
      rw [wl, wbX0_weighStates_10] at h
      refine lv_iload_n hx hb dX0_weighStates_10 rfl (lv_at hl 1 rfl) ?_
      refine lv_aload_n hx hb dX0_weighStates_11 rfl (lv_at hl 0 rfl) ?_
      refine va_get (v := .int t_codes) hx hb hts iX0 hown hK hP 0 rfl rfl 7 (by decide) (hts _ mX0_weighStates_2) (fun _ h9 => h9) rfl dX0_weighStates_12 ?_
      obtain ⟨hp_7, hn_7⟩ := h
      refine lv_icmp_ge (tgt := 110) hx hb dX0_weighStates_15 (by decide) (fun hc => ?_) (fun hc => ?_)
      · have h := hp_7 hc
        subst hQ
        exact vr_V (t_fewest_2, t_left_3, t_open_4, t_ahead_5, t_openCount_6) hx hb hr hlk hP hD hS [0, 1, 2, 3, 4, 5, 6, 7] rfl rfl h dX0_weighStates_110
      · have h := hn_7 hc
        refine lv_aload_n hx hb dX0_weighStates_18 rfl (lv_at hl 0 rfl) ?_
        refine lv_iload_n hx hb dX0_weighStates_19 rfl (lv_at hl 1 rfl) ?_
        refine vc_VV (As := [.int x1_1]) (rest := []) (wr := [(q_t_stock, .inl (cI, 12, .inl t_stock)), (q_t_gaps, .inl (cI, 156, .inl t_gaps))]) ⟨hx, hb, hml, hown, hts⟩ (ctX0_listOpen l D cB cI cJ cZ cR tz q_t q_t_askedTimes q_t_places q_t_stock q_t_step q_t_gaps q_t_fewest q_t_left q_t_open q_t_ahead q_t_chained t_asked t_placeCount t_codes t_openCount_6 t_changes t_step n_t_fewest t_fewest_2 t_left_3 t_open_4 t_ahead_5 x1_1 _ h) (cwV 1 hts gX0_weighStates_X0_listOpen rfl rfl rfl hdX0_listOpen ⟨Nat.le_of_ble_eq_true rfl, Nat.le_of_ble_eq_true rfl⟩) hK hP hD hS hA hT [0, 2, 4, 5, 6, 7] [1, 3] rfl rfl rfl rfl (by decide) 0 0 rfl rfl rfl rfl hl.1 (Nat.le_of_ble_eq_true rfl) dX0_weighStates_20 ⟨Nat.le_of_ble_eq_true rfl, Nat.le_of_ble_eq_true rfl⟩ (fun u9 H locs h hP hD hS => ?_)
        obtain ⟨t_open_8, t_ahead_9, t_openCount_10⟩ := u9
        have hP : va_P D vwCl ([(q_t, .inr (0, [.ref q_t_askedTimes, .int t_asked, .ref q_t_places, .ref q_t_stock, .ref q_t_step, .ref q_t_gaps, .int t_placeCount, .int t_codes, .ref q_t_fewest, .ref q_t_left, .ref q_t_open, .ref q_t_ahead, .int t_openCount_10, .ref q_t_chained, .int t_changes])), (q_t_stock, .inl (cI, 12, .inl t_stock)), (q_t_step, .inl (cI, 12, .inl t_step)), (q_t_gaps, .inl (cI, 156, .inl t_gaps)), (q_t_fewest, .inl (cB, n_t_fewest, .inl t_fewest_2)), (q_t_left, .inl (cI, 12, .inl t_left_3)), (q_t_open, .inl (cI, 12, .inl t_open_8)), (q_t_ahead, .inl (cI, 12, .inl t_ahead_9))]) H := hP.sub [2, 0, 3, 1, 4, 5, 6, 7] rfl
        have hD : va_D A ([(q_t, .inr (0, [.ref q_t_askedTimes, .int t_asked, .ref q_t_places, .ref q_t_stock, .ref q_t_step, .ref q_t_gaps, .int t_placeCount, .int t_codes, .ref q_t_fewest, .ref q_t_left, .ref q_t_open, .ref q_t_ahead, .int t_openCount_10, .ref q_t_chained, .int t_changes])), (q_t_stock, .inl (cI, 12, .inl t_stock)), (q_t_step, .inl (cI, 12, .inl t_step)), (q_t_gaps, .inl (cI, 156, .inl t_gaps)), (q_t_fewest, .inl (cB, n_t_fewest, .inl t_fewest_2)), (q_t_left, .inl (cI, 12, .inl t_left_3)), (q_t_open, .inl (cI, 12, .inl t_open_8)), (q_t_ahead, .inl (cI, 12, .inl t_ahead_9))]) := hD.sub [2, 0, 3, 1, 4, 5, 6, 7] rfl rfl
        try dsimp only at h
        refine lv_iconst (v := 0) hx hb dX0_weighStates_23 (by decide) ?_
        refine lv_istore_n (lv' := [(2, .int (0 : Int32)), (0, .ref q_t), (1, .int x1_1)]) hx hb dX0_weighStates_24 rfl hl (by decide) rfl (fun ls hl => ?_)
        have hL_25 : ∀ (n_25 : Nat) (x2_11 : Int32) (t_fewest_12 : (Nat → Int32)) (H : Heap) (locs : List Loc) (ls : Array Slot), wl (wbX0_weighStates_25 t_placeCount t_stock t_gaps n_t_fewest x1_1 t_left_3 (wl (wbX0_weighStates_10 t_placeCount t_codes t_stock t_step t_gaps n_t_fewest k) n_10) t_open_8 t_ahead_9 t_openCount_10) n_25 (x2_11, t_fewest_12) → va_P D vwCl ([(q_t, .inr (0, [.ref q_t_askedTimes, .int t_asked, .ref q_t_places, .ref q_t_stock, .ref q_t_step, .ref q_t_gaps, .int t_placeCount, .int t_codes, .ref q_t_fewest, .ref q_t_left, .ref q_t_open, .ref q_t_ahead, .int t_openCount_10, .ref q_t_chained, .int t_changes])), (q_t_stock, .inl (cI, 12, .inl t_stock)), (q_t_step, .inl (cI, 12, .inl t_step)), (q_t_gaps, .inl (cI, 156, .inl t_gaps)), (q_t_fewest, .inl (cB, n_t_fewest, .inl t_fewest_12)), (q_t_left, .inl (cI, 12, .inl t_left_3)), (q_t_open, .inl (cI, 12, .inl t_open_8)), (q_t_ahead, .inl (cI, 12, .inl t_ahead_9))]) H → va_D A ([(q_t, .inr (0, [.ref q_t_askedTimes, .int t_asked, .ref q_t_places, .ref q_t_stock, .ref q_t_step, .ref q_t_gaps, .int t_placeCount, .int t_codes, .ref q_t_fewest, .ref q_t_left, .ref q_t_open, .ref q_t_ahead, .int t_openCount_10, .ref q_t_chained, .int t_changes])), (q_t_stock, .inl (cI, 12, .inl t_stock)), (q_t_step, .inl (cI, 12, .inl t_step)), (q_t_gaps, .inl (cI, 156, .inl t_gaps)), (q_t_fewest, .inl (cB, n_t_fewest, .inl t_fewest_12)), (q_t_left, .inl (cI, 12, .inl t_left_3)), (q_t_open, .inl (cI, 12, .inl t_open_8)), (q_t_ahead, .inl (cI, 12, .inl t_ahead_9))]) → va_S A s.heap H locs → lv_has ls 4 [(0, .ref q_t), (1, .int x1_1), (2, .int x2_11)] → W p l e rmX0_weighStates s m args below meth c H locs 0 0 Q (F0 m 25 ls []) := by
          intro n_25
          induction n_25 with
          | zero => intro x2_11 t_fewest_12 H locs ls h; exact h.elim
          | succ n_25 ih_25 =>
            intro x2_11 t_fewest_12 H locs ls h hP hD hS hl
            rw [wl, wbX0_weighStates_25] at h
            refine lv_iload_n hx hb dX0_weighStates_25 rfl (lv_at hl 2 rfl) ?_
            refine lv_aload_n hx hb dX0_weighStates_26 rfl (lv_at hl 0 rfl) ?_
            refine va_get (v := .int t_placeCount) hx hb hts iX0 hown hK hP 0 rfl rfl 6 (by decide) (hts _ mX0_weighStates_3) (fun _ h9 => h9) rfl dX0_weighStates_27 ?_
            obtain ⟨hp_13, hn_13⟩ := h
            refine lv_icmp_ge (tgt := 100) hx hb dX0_weighStates_30 (by decide) (fun hc => ?_) (fun hc => ?_)
            · have h := hp_13 hc
              refine lv_aload_n hx hb dX0_weighStates_100 rfl (lv_at hl 0 rfl) ?_
              refine vc_VV (As := []) (rest := []) (wr := [(q_t_step, .inl (cI, 12, .inl t_step)), (q_t_gaps, .inl (cI, 156, .inl t_gaps)), (q_t_fewest, .inl (cB, n_t_fewest, .inl t_fewest_12)), (q_t_open, .inl (cI, 12, .inl t_open_8)), (q_t_ahead, .inl (cI, 12, .inl t_ahead_9))]) ⟨hx, hb, hml, hown, hts⟩ (ctX0_countOn l D cB cI cJ cZ cR tz q_t q_t_askedTimes q_t_places q_t_stock q_t_step q_t_gaps q_t_fewest q_t_left q_t_open q_t_ahead q_t_chained t_asked t_placeCount t_codes t_openCount_10 t_changes t_stock t_left_3 _ h) (cwV 0 hts gX0_weighStates_X0_countOn rfl rfl rfl hdX0_countOn ⟨Nat.le_of_ble_eq_true rfl, Nat.le_of_ble_eq_true rfl⟩) hK hP hD hS hA hT [0, 1, 5] [2, 3, 4, 6, 7] rfl rfl rfl rfl (by decide) 0 0 rfl rfl rfl rfl hl.1 (Nat.le_of_ble_eq_true rfl) dX0_weighStates_101 ⟨Nat.le_of_ble_eq_true rfl, Nat.le_of_ble_eq_true rfl⟩ (fun t_left_14 H locs h hP hD hS => ?_)
              have hP : va_P D vwCl ([(q_t, .inr (0, [.ref q_t_askedTimes, .int t_asked, .ref q_t_places, .ref q_t_stock, .ref q_t_step, .ref q_t_gaps, .int t_placeCount, .int t_codes, .ref q_t_fewest, .ref q_t_left, .ref q_t_open, .ref q_t_ahead, .int t_openCount_10, .ref q_t_chained, .int t_changes])), (q_t_stock, .inl (cI, 12, .inl t_stock)), (q_t_step, .inl (cI, 12, .inl t_step)), (q_t_gaps, .inl (cI, 156, .inl t_gaps)), (q_t_fewest, .inl (cB, n_t_fewest, .inl t_fewest_12)), (q_t_left, .inl (cI, 12, .inl t_left_14)), (q_t_open, .inl (cI, 12, .inl t_open_8)), (q_t_ahead, .inl (cI, 12, .inl t_ahead_9))]) H := hP.sub [5, 6, 0, 1, 2, 7, 3, 4] rfl
              have hD : va_D A ([(q_t, .inr (0, [.ref q_t_askedTimes, .int t_asked, .ref q_t_places, .ref q_t_stock, .ref q_t_step, .ref q_t_gaps, .int t_placeCount, .int t_codes, .ref q_t_fewest, .ref q_t_left, .ref q_t_open, .ref q_t_ahead, .int t_openCount_10, .ref q_t_chained, .int t_changes])), (q_t_stock, .inl (cI, 12, .inl t_stock)), (q_t_step, .inl (cI, 12, .inl t_step)), (q_t_gaps, .inl (cI, 156, .inl t_gaps)), (q_t_fewest, .inl (cB, n_t_fewest, .inl t_fewest_12)), (q_t_left, .inl (cI, 12, .inl t_left_14)), (q_t_open, .inl (cI, 12, .inl t_open_8)), (q_t_ahead, .inl (cI, 12, .inl t_ahead_9))]) := hD.sub [5, 6, 0, 1, 2, 7, 3, 4] rfl rfl
              try dsimp only at h
              refine lv_iinc (v := x1_1 + (1 : Int32)) (lv' := [(1, .int (x1_1 + (1 : Int32))), (0, .ref q_t), (2, .int x2_11)]) hx hb dX0_weighStates_104 hl (k := 1) rfl rfl (by decide) rfl (fun ls hl => ?_)
              refine lv_goto (tgt := 10) hx hb dX0_weighStates_107 (by decide) ?_
              exact ih_10 (x1_1 + (1 : Int32)) t_fewest_12 t_left_14 t_open_8 t_ahead_9 t_openCount_10 _ _ _ h hP hD hS (lv_sub hl [1, 0] rfl)
            · have h := hn_13 hc
              refine lv_iload_n hx hb dX0_weighStates_33 rfl (lv_at hl 1 rfl) ?_
              refine lv_aload_n hx hb dX0_weighStates_34 rfl (lv_at hl 0 rfl) ?_
              refine va_get (v := .int t_placeCount) hx hb hts iX0 hown hK hP 0 rfl rfl 6 (by decide) (hts _ mX0_weighStates_3) (fun _ h9 => h9) rfl dX0_weighStates_35 ?_
              refine lv_imul hx hb dX0_weighStates_38 ?_
              refine lv_iload_n hx hb dX0_weighStates_39 rfl (lv_at hl 2 rfl) ?_
              refine lv_iadd hx hb dX0_weighStates_40 ?_
              refine lv_istore_n (lv' := [(3, .int ((x1_1 * t_placeCount) + x2_11)), (0, .ref q_t), (1, .int x1_1), (2, .int x2_11)]) hx hb dX0_weighStates_41 rfl hl (by decide) rfl (fun ls hl => ?_)
              refine lv_aload_n hx hb dX0_weighStates_42 rfl (lv_at hl 1 rfl) ?_
              refine va_get (v := .ref q_t_left) hx hb hts iX0 hown hK hP 0 rfl rfl 9 (by decide) (hts _ mX0_weighStates_1) (fun _ h9 => h9) rfl dX0_weighStates_43 ?_
              refine lv_iload_n hx hb dX0_weighStates_46 rfl (lv_at hl 3 rfl) ?_
              obtain ⟨hi_15, h⟩ := h
              refine vi_ald hx hb hK hP 5 1 rfl rfl hi_15 rfl dX0_weighStates_47 ?_
              refine lv_aload_n hx hb dX0_weighStates_48 rfl (lv_at hl 1 rfl) ?_
              refine va_get (v := .ref q_t_stock) hx hb hts iX0 hown hK hP 0 rfl rfl 3 (by decide) (hts _ mX0_weighStates_4) (fun _ h9 => h9) rfl dX0_weighStates_49 ?_
              refine lv_iload_n hx hb dX0_weighStates_52 rfl (lv_at hl 3 rfl) ?_
              obtain ⟨hi_16, h⟩ := h
              refine vi_ald hx hb hK hP 1 1 rfl rfl hi_16 rfl dX0_weighStates_53 ?_
              obtain ⟨hp_17, hn_17⟩ := h
              refine lv_icmp_ge (tgt := 94) hx hb dX0_weighStates_54 (by decide) (fun hc => ?_) (fun hc => ?_)
              · have h := hp_17 hc
                refine lv_iinc (v := x2_11 + (1 : Int32)) (lv' := [(2, .int (x2_11 + (1 : Int32))), (3, .int ((x1_1 * t_placeCount) + x2_11)), (0, .ref q_t), (1, .int x1_1)]) hx hb dX0_weighStates_94 hl (k := 3) rfl rfl (by decide) rfl (fun ls hl => ?_)
                refine lv_goto (tgt := 25) hx hb dX0_weighStates_97 (by decide) ?_
                exact ih_25 (x2_11 + (1 : Int32)) t_fewest_12 _ _ _ h hP hD hS (lv_sub hl [2, 3, 0] rfl)
              · have h := hn_17 hc
                refine lv_iload_n hx hb dX0_weighStates_57 rfl (lv_at hl 0 rfl) ?_
                refine lv_aload_n hx hb dX0_weighStates_58 rfl (lv_at hl 1 rfl) ?_
                refine va_get (v := .ref q_t_fewest) hx hb hts iX0 hown hK hP 0 rfl rfl 8 (by decide) (hts _ mX0_weighStates_5) (fun _ h9 => h9) rfl dX0_weighStates_59 ?_
                refine va_alen (v := Int32.ofNat n_t_fewest) hx hb hK hP 4 0 rfl rfl rfl dX0_weighStates_62 ?_
                obtain ⟨hp_18, hn_18⟩ := h
                refine lv_icmp_ge (tgt := 94) hx hb dX0_weighStates_63 (by decide) (fun hc => ?_) (fun hc => ?_)
                · have h := hp_18 hc
                  refine lv_iinc (v := x2_11 + (1 : Int32)) (lv' := [(2, .int (x2_11 + (1 : Int32))), (3, .int ((x1_1 * t_placeCount) + x2_11)), (0, .ref q_t), (1, .int x1_1)]) hx hb dX0_weighStates_94 hl (k := 3) rfl rfl (by decide) rfl (fun ls hl => ?_)
                  refine lv_goto (tgt := 25) hx hb dX0_weighStates_97 (by decide) ?_
                  exact ih_25 (x2_11 + (1 : Int32)) t_fewest_12 _ _ _ h hP hD hS (lv_sub hl [2, 3, 0] rfl)
                · have h := hn_18 hc
                  refine lv_aload_n hx hb dX0_weighStates_66 rfl (lv_at hl 1 rfl) ?_
                  refine va_get (v := .ref q_t_fewest) hx hb hts iX0 hown hK hP 0 rfl rfl 8 (by decide) (hts _ mX0_weighStates_5) (fun _ h9 => h9) rfl dX0_weighStates_67 ?_
                  refine lv_iload_n hx hb dX0_weighStates_70 rfl (lv_at hl 0 rfl) ?_
                  refine lv_aload_n hx hb dX0_weighStates_71 rfl (lv_at hl 1 rfl) ?_
                  refine va_get (v := .int t_openCount_10) hx hb hts iX0 hown hK hP 0 rfl rfl 12 (by decide) (hts _ mX0_weighStates_6) (fun _ h9 => h9) rfl dX0_weighStates_72 ?_
                  obtain ⟨hp_19, hn_19⟩ := h
                  refine lv_if_ne (tgt := 82) hx hb dX0_weighStates_75 (by decide) (fun hc => ?_) (fun hc => ?_)
                  · have h := hn_19 hc
                    refine lv_aload_n hx hb dX0_weighStates_82 rfl (lv_at hl 1 rfl) ?_
                    refine lv_iload_n hx hb dX0_weighStates_83 rfl (lv_at hl 3 rfl) ?_
                    refine lv_aload_n hx hb dX0_weighStates_84 rfl (lv_at hl 1 rfl) ?_
                    refine lv_iload_n hx hb dX0_weighStates_85 rfl (lv_at hl 3 rfl) ?_
                    refine vc_VI (As := [.int x2_11]) (rest := [.int x2_11, .ref q_t, .int ((x1_1 * t_placeCount) + x2_11), .ref q_t_fewest]) (wr := [(q_t_stock, .inl (cI, 12, .inl t_stock)), (q_t_step, .inl (cI, 12, .inl t_step)), (q_t_fewest, .inl (cB, n_t_fewest, .inl t_fewest_12)), (q_t_left, .inl (cI, 12, .inl t_left_3))]) ⟨hx, hb, hml, hown, hts⟩ (ctX0_firstLeast l D cB cI cJ cZ cR tz q_t q_t_askedTimes q_t_places q_t_stock q_t_step q_t_gaps q_t_fewest q_t_left q_t_open q_t_ahead q_t_chained t_asked t_placeCount t_codes t_openCount_10 t_changes t_gaps t_open_8 t_ahead_9 x2_11 _ h) (cwV 1 hts gX0_weighStates_X0_firstLeast rfl rfl rfl hdX0_firstLeast ⟨Nat.le_of_ble_eq_true rfl, Nat.le_of_ble_eq_true rfl⟩) hK hP hD hS hA hT [0, 3, 6, 7] [1, 2, 4, 5] rfl rfl rfl rfl (by decide) 0 0 rfl rfl rfl rfl hl.1 (Nat.le_of_ble_eq_true rfl) dX0_weighStates_86 ⟨Nat.le_of_ble_eq_true rfl, Nat.le_of_ble_eq_true rfl⟩ (fun r_20 u9 H locs h hP hD hS => ?_)
                    have hP : va_P D vwCl ([(q_t, .inr (0, [.ref q_t_askedTimes, .int t_asked, .ref q_t_places, .ref q_t_stock, .ref q_t_step, .ref q_t_gaps, .int t_placeCount, .int t_codes, .ref q_t_fewest, .ref q_t_left, .ref q_t_open, .ref q_t_ahead, .int t_openCount_10, .ref q_t_chained, .int t_changes])), (q_t_stock, .inl (cI, 12, .inl t_stock)), (q_t_step, .inl (cI, 12, .inl t_step)), (q_t_gaps, .inl (cI, 156, .inl t_gaps)), (q_t_fewest, .inl (cB, n_t_fewest, .inl t_fewest_12)), (q_t_left, .inl (cI, 12, .inl t_left_3)), (q_t_open, .inl (cI, 12, .inl t_open_8)), (q_t_ahead, .inl (cI, 12, .inl t_ahead_9))]) H := hP.sub [4, 0, 1, 5, 2, 3, 6, 7] rfl
                    have hD : va_D A ([(q_t, .inr (0, [.ref q_t_askedTimes, .int t_asked, .ref q_t_places, .ref q_t_stock, .ref q_t_step, .ref q_t_gaps, .int t_placeCount, .int t_codes, .ref q_t_fewest, .ref q_t_left, .ref q_t_open, .ref q_t_ahead, .int t_openCount_10, .ref q_t_chained, .int t_changes])), (q_t_stock, .inl (cI, 12, .inl t_stock)), (q_t_step, .inl (cI, 12, .inl t_step)), (q_t_gaps, .inl (cI, 156, .inl t_gaps)), (q_t_fewest, .inl (cB, n_t_fewest, .inl t_fewest_12)), (q_t_left, .inl (cI, 12, .inl t_left_3)), (q_t_open, .inl (cI, 12, .inl t_open_8)), (q_t_ahead, .inl (cI, 12, .inl t_ahead_9))]) := hD.sub [4, 0, 1, 5, 2, 3, 6, 7] rfl rfl
                    try dsimp only at h
                    refine vc_VI (As := [.int x2_11, .int r_20]) (rest := [.int ((x1_1 * t_placeCount) + x2_11), .ref q_t_fewest]) (wr := [(q_t_stock, .inl (cI, 12, .inl t_stock)), (q_t_step, .inl (cI, 12, .inl t_step)), (q_t_fewest, .inl (cB, n_t_fewest, .inl t_fewest_12)), (q_t_left, .inl (cI, 12, .inl t_left_3))]) ⟨hx, hb, hml, hown, hts⟩ (ctX0_changesBy l D cB cI cJ cZ cR tz q_t q_t_askedTimes q_t_places q_t_stock q_t_step q_t_gaps q_t_fewest q_t_left q_t_open q_t_ahead q_t_chained t_asked t_placeCount t_codes t_openCount_10 t_changes t_gaps t_open_8 t_ahead_9 x2_11 r_20 _ h) (cwV 2 hts gX0_weighStates_X0_changesBy rfl rfl rfl hdX0_changesBy ⟨Nat.le_of_ble_eq_true rfl, Nat.le_of_ble_eq_true rfl⟩) hK hP hD hS hA hT [0, 3, 6, 7] [1, 2, 4, 5] rfl rfl rfl rfl (by decide) 0 0 rfl rfl rfl rfl hl.1 (Nat.le_of_ble_eq_true rfl) dX0_weighStates_89 ⟨Nat.le_of_ble_eq_true rfl, Nat.le_of_ble_eq_true rfl⟩ (fun r_21 u9 H locs h hP hD hS => ?_)
                    have hP : va_P D vwCl ([(q_t, .inr (0, [.ref q_t_askedTimes, .int t_asked, .ref q_t_places, .ref q_t_stock, .ref q_t_step, .ref q_t_gaps, .int t_placeCount, .int t_codes, .ref q_t_fewest, .ref q_t_left, .ref q_t_open, .ref q_t_ahead, .int t_openCount_10, .ref q_t_chained, .int t_changes])), (q_t_stock, .inl (cI, 12, .inl t_stock)), (q_t_step, .inl (cI, 12, .inl t_step)), (q_t_gaps, .inl (cI, 156, .inl t_gaps)), (q_t_fewest, .inl (cB, n_t_fewest, .inl t_fewest_12)), (q_t_left, .inl (cI, 12, .inl t_left_3)), (q_t_open, .inl (cI, 12, .inl t_open_8)), (q_t_ahead, .inl (cI, 12, .inl t_ahead_9))]) H := hP.sub [4, 0, 1, 5, 2, 3, 6, 7] rfl
                    have hD : va_D A ([(q_t, .inr (0, [.ref q_t_askedTimes, .int t_asked, .ref q_t_places, .ref q_t_stock, .ref q_t_step, .ref q_t_gaps, .int t_placeCount, .int t_codes, .ref q_t_fewest, .ref q_t_left, .ref q_t_open, .ref q_t_ahead, .int t_openCount_10, .ref q_t_chained, .int t_changes])), (q_t_stock, .inl (cI, 12, .inl t_stock)), (q_t_step, .inl (cI, 12, .inl t_step)), (q_t_gaps, .inl (cI, 156, .inl t_gaps)), (q_t_fewest, .inl (cB, n_t_fewest, .inl t_fewest_12)), (q_t_left, .inl (cI, 12, .inl t_left_3)), (q_t_open, .inl (cI, 12, .inl t_open_8)), (q_t_ahead, .inl (cI, 12, .inl t_ahead_9))]) := hD.sub [4, 0, 1, 5, 2, 3, 6, 7] rfl rfl
                    try dsimp only at h
                    refine lv_i2b hx hb dX0_weighStates_92 rfl ?_
                    obtain ⟨hi_22, h⟩ := h
                    refine vb_ast (x := r_21.toInt8.toInt32) hx hb hK hP hD hS 4 0 rfl rfl hi_22 rfl dX0_weighStates_93 (fun H locs hP hD hS => ?_)
                    have hP : va_P D vwCl ([(q_t, .inr (0, [.ref q_t_askedTimes, .int t_asked, .ref q_t_places, .ref q_t_stock, .ref q_t_step, .ref q_t_gaps, .int t_placeCount, .int t_codes, .ref q_t_fewest, .ref q_t_left, .ref q_t_open, .ref q_t_ahead, .int t_openCount_10, .ref q_t_chained, .int t_changes])), (q_t_stock, .inl (cI, 12, .inl t_stock)), (q_t_step, .inl (cI, 12, .inl t_step)), (q_t_gaps, .inl (cI, 156, .inl t_gaps)), (q_t_fewest, .inl (cB, n_t_fewest, .inl (upd t_fewest_12 (((x1_1 * t_placeCount) + x2_11).toNatClampNeg) (vp_nar .byte (r_21.toInt8.toInt32))))), (q_t_left, .inl (cI, 12, .inl t_left_3)), (q_t_open, .inl (cI, 12, .inl t_open_8)), (q_t_ahead, .inl (cI, 12, .inl t_ahead_9))]) H := hP
                    have hD : va_D A ([(q_t, .inr (0, [.ref q_t_askedTimes, .int t_asked, .ref q_t_places, .ref q_t_stock, .ref q_t_step, .ref q_t_gaps, .int t_placeCount, .int t_codes, .ref q_t_fewest, .ref q_t_left, .ref q_t_open, .ref q_t_ahead, .int t_openCount_10, .ref q_t_chained, .int t_changes])), (q_t_stock, .inl (cI, 12, .inl t_stock)), (q_t_step, .inl (cI, 12, .inl t_step)), (q_t_gaps, .inl (cI, 156, .inl t_gaps)), (q_t_fewest, .inl (cB, n_t_fewest, .inl (upd t_fewest_12 (((x1_1 * t_placeCount) + x2_11).toNatClampNeg) (vp_nar .byte (r_21.toInt8.toInt32))))), (q_t_left, .inl (cI, 12, .inl t_left_3)), (q_t_open, .inl (cI, 12, .inl t_open_8)), (q_t_ahead, .inl (cI, 12, .inl t_ahead_9))]) := hD
                    refine lv_iinc (v := x2_11 + (1 : Int32)) (lv' := [(2, .int (x2_11 + (1 : Int32))), (3, .int ((x1_1 * t_placeCount) + x2_11)), (0, .ref q_t), (1, .int x1_1)]) hx hb dX0_weighStates_94 hl (k := 3) rfl rfl (by decide) rfl (fun ls hl => ?_)
                    refine lv_goto (tgt := 25) hx hb dX0_weighStates_97 (by decide) ?_
                    exact ih_25 (x2_11 + (1 : Int32)) (upd t_fewest_12 (((x1_1 * t_placeCount) + x2_11).toNatClampNeg) (vp_nar .byte (r_21.toInt8.toInt32))) _ _ _ h hP hD hS (lv_sub hl [2, 3, 0] rfl)
                  · have h := hp_19 hc
                    refine lv_iconst (v := 0) hx hb dX0_weighStates_78 (by decide) ?_
                    refine lv_goto (tgt := 92) hx hb dX0_weighStates_79 (by decide) ?_
                    refine lv_i2b hx hb dX0_weighStates_92 rfl ?_
                    obtain ⟨hi_23, h⟩ := h
                    refine vb_ast (x := (0 : Int32).toInt8.toInt32) hx hb hK hP hD hS 4 0 rfl rfl hi_23 rfl dX0_weighStates_93 (fun H locs hP hD hS => ?_)
                    have hP : va_P D vwCl ([(q_t, .inr (0, [.ref q_t_askedTimes, .int t_asked, .ref q_t_places, .ref q_t_stock, .ref q_t_step, .ref q_t_gaps, .int t_placeCount, .int t_codes, .ref q_t_fewest, .ref q_t_left, .ref q_t_open, .ref q_t_ahead, .int t_openCount_10, .ref q_t_chained, .int t_changes])), (q_t_stock, .inl (cI, 12, .inl t_stock)), (q_t_step, .inl (cI, 12, .inl t_step)), (q_t_gaps, .inl (cI, 156, .inl t_gaps)), (q_t_fewest, .inl (cB, n_t_fewest, .inl (upd t_fewest_12 (((x1_1 * t_placeCount) + x2_11).toNatClampNeg) (vp_nar .byte ((0 : Int32).toInt8.toInt32))))), (q_t_left, .inl (cI, 12, .inl t_left_3)), (q_t_open, .inl (cI, 12, .inl t_open_8)), (q_t_ahead, .inl (cI, 12, .inl t_ahead_9))]) H := hP
                    have hD : va_D A ([(q_t, .inr (0, [.ref q_t_askedTimes, .int t_asked, .ref q_t_places, .ref q_t_stock, .ref q_t_step, .ref q_t_gaps, .int t_placeCount, .int t_codes, .ref q_t_fewest, .ref q_t_left, .ref q_t_open, .ref q_t_ahead, .int t_openCount_10, .ref q_t_chained, .int t_changes])), (q_t_stock, .inl (cI, 12, .inl t_stock)), (q_t_step, .inl (cI, 12, .inl t_step)), (q_t_gaps, .inl (cI, 156, .inl t_gaps)), (q_t_fewest, .inl (cB, n_t_fewest, .inl (upd t_fewest_12 (((x1_1 * t_placeCount) + x2_11).toNatClampNeg) (vp_nar .byte ((0 : Int32).toInt8.toInt32))))), (q_t_left, .inl (cI, 12, .inl t_left_3)), (q_t_open, .inl (cI, 12, .inl t_open_8)), (q_t_ahead, .inl (cI, 12, .inl t_ahead_9))]) := hD
                    refine lv_iinc (v := x2_11 + (1 : Int32)) (lv' := [(2, .int (x2_11 + (1 : Int32))), (3, .int ((x1_1 * t_placeCount) + x2_11)), (0, .ref q_t), (1, .int x1_1)]) hx hb dX0_weighStates_94 hl (k := 3) rfl rfl (by decide) rfl (fun ls hl => ?_)
                    refine lv_goto (tgt := 25) hx hb dX0_weighStates_97 (by decide) ?_
                    exact ih_25 (x2_11 + (1 : Int32)) (upd t_fewest_12 (((x1_1 * t_placeCount) + x2_11).toNatClampNeg) (vp_nar .byte ((0 : Int32).toInt8.toInt32))) _ _ _ h hP hD hS (lv_sub hl [2, 3, 0] rfl)
        obtain ⟨n_25, h⟩ := h
        exact hL_25 n_25 (0 : Int32) t_fewest_2 _ _ _ h hP hD hS (lv_sub hl [1, 2, 0] rfl)
  obtain ⟨n_10, h⟩ := h
  exact hL_10 n_10 (0 : Int32) t_fewest (fun _ => (0 : Int32)) t_open t_ahead t_openCount _ _ _ h hP hD hS (lv_sub hl [1, 0] rfl)
theorem mX0_readChain_1 : Cond.fieldLink RX0 18 "TrialDesk$ChainSearch" "stock" "[I" ∈ wsX0_readChain := List.mem_of_getElem? (i := 1) (by decide +kernel)
theorem mX0_readChain_2 : Cond.fieldLink RX0 31 "TrialDesk$ChainSearch" "left" "[I" ∈ wsX0_readChain := List.mem_of_getElem? (i := 2) (by decide +kernel)
theorem mX0_readChain_3 : Cond.methodLink RX0 47 arraycopyName ∈ wsX0_readChain := List.mem_of_getElem? (i := 3) (by decide +kernel)
theorem mX0_readChain_4 : Cond.native arraycopyName ∈ wsX0_readChain := List.mem_of_getElem? (i := 4) (by decide +kernel)
theorem mX0_readChain_5 : Cond.static arraycopyName ∈ wsX0_readChain := List.mem_of_getElem? (i := 5) (by decide +kernel)
theorem mX0_readChain_6 : Cond.initialized "java/lang/System" ∈ wsX0_readChain := List.mem_of_getElem? (i := 6) (by decide +kernel)
theorem mX0_readChain_7 : Cond.fieldLink RX0 117 "TrialDesk$ChainSearch" "changes" "I" ∈ wsX0_readChain := List.mem_of_getElem? (i := 7) (by decide +kernel)
theorem mX0_readChain_8 : Cond.fieldLink RX0 63 "TrialDesk$ChainSearch" "codes" "I" ∈ wsX0_readChain := List.mem_of_getElem? (i := 8) (by decide +kernel)
theorem mX0_readChain_9 : Cond.fieldLink RX0 34 "TrialDesk$ChainSearch" "open" "[I" ∈ wsX0_readChain := List.mem_of_getElem? (i := 9) (by decide +kernel)
theorem mX0_readChain_10 : Cond.fieldLink RX0 24 "TrialDesk$ChainSearch" "gaps" "[I" ∈ wsX0_readChain := List.mem_of_getElem? (i := 10) (by decide +kernel)
theorem mX0_readChain_11 : Cond.fieldLink RX0 40 "TrialDesk$ChainSearch" "chained" "[I" ∈ wsX0_readChain := List.mem_of_getElem? (i := 11) (by decide +kernel)
theorem mX0_readChain_12 : Cond.fieldLink RX0 15 "TrialDesk$ChainSearch" "places" "[I" ∈ wsX0_readChain := List.mem_of_getElem? (i := 12) (by decide +kernel)
theorem mX0_readChain_13 : Cond.fieldLink RX0 21 "TrialDesk$ChainSearch" "step" "[I" ∈ wsX0_readChain := List.mem_of_getElem? (i := 13) (by decide +kernel)
abbrev rmX0_readChain : Room := { frames := 1, cells := 0, slots := 0, locals := 70 }
set_option maxHeartbeats 4000000 in
set_option maxRecDepth 100000 in
theorem ctX0_readChain (l : Launch) (D : va_G) (cB cI cJ cZ cR : ClassId) (tz : Nat) (q_t : Nat) (q_t_askedTimes : Nat) (q_t_places : Nat) (q_t_stock : Nat) (q_t_step : Nat) (q_t_gaps : Nat) (q_t_fewest : Nat) (q_t_left : Nat) (q_t_open : Nat) (q_t_ahead : Nat) (q_t_chained : Nat) (t_asked : Int32) (t_placeCount : Int32) (t_codes : Int32) (t_openCount : Int32) (t_changes : Int32) (t_places : (Nat → Int32)) (t_stock : (Nat → Int32)) (t_step : (Nat → Int32)) (t_gaps : (Nat → Int32)) (n_t_fewest : Nat) (t_fewest : (Nat → Int32)) (t_left : (Nat → Int32)) (t_open : (Nat → Int32)) (t_ahead : (Nat → Int32)) (t_chained : (Nat → Int32)) (k : (Nat → Int32) → (Nat → Int32) → (Nat → Int32) → Int32 → (Nat → Int32) → Int32 → Prop) (h : wpX0_readChain t_places t_stock t_step t_gaps t_placeCount t_codes n_t_fewest t_fewest t_left t_open t_ahead t_openCount t_chained t_changes k) : MV l yX0_readChain wsX0_readChain rmX0_readChain D (vTy cB cI cJ cZ cR) tz [.ref q_t] ([(q_t, .inr (0, [.ref q_t_askedTimes, .int t_asked, .ref q_t_places, .ref q_t_stock, .ref q_t_step, .ref q_t_gaps, .int t_placeCount, .int t_codes, .ref q_t_fewest, .ref q_t_left, .ref q_t_open, .ref q_t_ahead, .int t_openCount, .ref q_t_chained, .int t_changes])), (q_t_places, .inl (cI, 12, .inl t_places)), (q_t_stock, .inl (cI, 12, .inl t_stock)), (q_t_step, .inl (cI, 12, .inl t_step)), (q_t_gaps, .inl (cI, 156, .inl t_gaps)), (q_t_fewest, .inl (cB, n_t_fewest, .inl t_fewest)), (q_t_left, .inl (cI, 12, .inl t_left)), (q_t_open, .inl (cI, 12, .inl t_open)), (q_t_ahead, .inl (cI, 12, .inl t_ahead)), (q_t_chained, .inl (cI, 12, .inl t_chained))]) (fun (u : (Nat → Int32) × (Nat → Int32) × (Nat → Int32) × Int32 × (Nat → Int32) × Int32) => k u.1 u.2.1 u.2.2.1 u.2.2.2.1 u.2.2.2.2.1 u.2.2.2.2.2) (fun (u : (Nat → Int32) × (Nat → Int32) × (Nat → Int32) × Int32 × (Nat → Int32) × Int32) => [(q_t, .inr (0, [.ref q_t_askedTimes, .int t_asked, .ref q_t_places, .ref q_t_stock, .ref q_t_step, .ref q_t_gaps, .int t_placeCount, .int t_codes, .ref q_t_fewest, .ref q_t_left, .ref q_t_open, .ref q_t_ahead, .int (u.2.2.2.1), .ref q_t_chained, .int (u.2.2.2.2.2)])), (q_t_places, .inl (cI, 12, .inl t_places)), (q_t_stock, .inl (cI, 12, .inl t_stock)), (q_t_step, .inl (cI, 12, .inl t_step)), (q_t_gaps, .inl (cI, 156, .inl t_gaps)), (q_t_fewest, .inl (cB, n_t_fewest, .inl t_fewest)), (q_t_left, .inl (cI, 12, .inl (u.1))), (q_t_open, .inl (cI, 12, .inl (u.2.1))), (q_t_ahead, .inl (cI, 12, .inl (u.2.2.1))), (q_t_chained, .inl (cI, 12, .inl (u.2.2.2.2.1)))]) 0 0 := by
  refine MV.of (cc := cX0_readChain) (maxL := 5) (ret := none) (by decide) rfl (Nat.le_of_ble_eq_true rfl) ?_
  intro p e s m args below meth c A ls Q hQ E
  obtain ⟨hx, hb, hml, hr, hts, hown, hlk, hin, hP, hK, hD, hS, hA, hT, hl⟩ := E
  have hown : s.vm.findClass RX0 = some m.cls := hown
  have hl : lv_has ls 5 [(0, .ref q_t)] := hl
  have iX0 : ∀ w ∈ wsX00, w ∈ wsX0_readChain := fun _ h => List.mem_cons_of_mem _ (List.mem_append_right _ h)
  unfold wpX0_readChain at h
  refine lv_aload_n hx hb dX0_readChain_0 rfl (lv_at hl 0 rfl) ?_
  refine va_get (v := .ref q_t_stock) hx hb hts iX0 hown hK hP 0 rfl rfl 3 (by decide) (hts _ mX0_readChain_1) (fun _ h9 => h9) rfl dX0_readChain_1 ?_
  refine lv_iconst (v := 0) hx hb dX0_readChain_4 (by decide) ?_
  refine lv_aload_n hx hb dX0_readChain_5 rfl (lv_at hl 0 rfl) ?_
  refine va_get (v := .ref q_t_left) hx hb hts iX0 hown hK hP 0 rfl rfl 9 (by decide) (hts _ mX0_readChain_2) (fun _ h9 => h9) rfl dX0_readChain_6 ?_
  refine lv_iconst (v := 0) hx hb dX0_readChain_9 (by decide) ?_
  refine lv_bipush (v := 12) hx hb dX0_readChain_10 (by decide) ?_
  refine vcp_i (k := 12) hx hb (hml.trans hl.1.symm) hown (hts _ mX0_readChain_3) (hts _ mX0_readChain_4) (hts _ mX0_readChain_5) (hts _ mX0_readChain_6) hK hP hD hS 2 6 rfl rfl rfl rfl (by decide) (by decide) (by decide) (by decide) rfl (Nat.le_of_ble_eq_true rfl) (Nat.le_of_ble_eq_true rfl) dX0_readChain_12 (fun H locs hP hD hS => ?_)
  have hP : va_P D vwCl ([(q_t, .inr (0, [.ref q_t_askedTimes, .int t_asked, .ref q_t_places, .ref q_t_stock, .ref q_t_step, .ref q_t_gaps, .int t_placeCount, .int t_codes, .ref q_t_fewest, .ref q_t_left, .ref q_t_open, .ref q_t_ahead, .int t_openCount, .ref q_t_chained, .int t_changes])), (q_t_places, .inl (cI, 12, .inl t_places)), (q_t_stock, .inl (cI, 12, .inl t_stock)), (q_t_step, .inl (cI, 12, .inl t_step)), (q_t_gaps, .inl (cI, 156, .inl t_gaps)), (q_t_fewest, .inl (cB, n_t_fewest, .inl t_fewest)), (q_t_left, .inl (cI, 12, .inl t_stock)), (q_t_open, .inl (cI, 12, .inl t_open)), (q_t_ahead, .inl (cI, 12, .inl t_ahead)), (q_t_chained, .inl (cI, 12, .inl t_chained))]) H := hP
  have hD : va_D A ([(q_t, .inr (0, [.ref q_t_askedTimes, .int t_asked, .ref q_t_places, .ref q_t_stock, .ref q_t_step, .ref q_t_gaps, .int t_placeCount, .int t_codes, .ref q_t_fewest, .ref q_t_left, .ref q_t_open, .ref q_t_ahead, .int t_openCount, .ref q_t_chained, .int t_changes])), (q_t_places, .inl (cI, 12, .inl t_places)), (q_t_stock, .inl (cI, 12, .inl t_stock)), (q_t_step, .inl (cI, 12, .inl t_step)), (q_t_gaps, .inl (cI, 156, .inl t_gaps)), (q_t_fewest, .inl (cB, n_t_fewest, .inl t_fewest)), (q_t_left, .inl (cI, 12, .inl t_stock)), (q_t_open, .inl (cI, 12, .inl t_open)), (q_t_ahead, .inl (cI, 12, .inl t_ahead)), (q_t_chained, .inl (cI, 12, .inl t_chained))]) := hD
  refine lv_aload_n hx hb dX0_readChain_15 rfl (lv_at hl 0 rfl) ?_
  refine lv_iconst (v := 0) hx hb dX0_readChain_16 (by decide) ?_
  refine va_put (v := .int (0 : Int32)) (ty := .int) hx hb hts iX0 tyX0 tyX0_ok nmX0 hown hK hP hD hS 0 rfl rfl 14 (by decide) (hts _ mX0_readChain_7) (fun _ h9 => h9) rfl (tyX0_ok 14 (by decide)) rfl rfl (Nat.le_of_ble_eq_true rfl) dX0_readChain_17 (fun H locs hP hD hS => ?_)
  have hP : va_P D vwCl ([(q_t, .inr (0, [.ref q_t_askedTimes, .int t_asked, .ref q_t_places, .ref q_t_stock, .ref q_t_step, .ref q_t_gaps, .int t_placeCount, .int t_codes, .ref q_t_fewest, .ref q_t_left, .ref q_t_open, .ref q_t_ahead, .int t_openCount, .ref q_t_chained, .int (0 : Int32)])), (q_t_places, .inl (cI, 12, .inl t_places)), (q_t_stock, .inl (cI, 12, .inl t_stock)), (q_t_step, .inl (cI, 12, .inl t_step)), (q_t_gaps, .inl (cI, 156, .inl t_gaps)), (q_t_fewest, .inl (cB, n_t_fewest, .inl t_fewest)), (q_t_left, .inl (cI, 12, .inl t_stock)), (q_t_open, .inl (cI, 12, .inl t_open)), (q_t_ahead, .inl (cI, 12, .inl t_ahead)), (q_t_chained, .inl (cI, 12, .inl t_chained))]) H := hP
  have hD : va_D A ([(q_t, .inr (0, [.ref q_t_askedTimes, .int t_asked, .ref q_t_places, .ref q_t_stock, .ref q_t_step, .ref q_t_gaps, .int t_placeCount, .int t_codes, .ref q_t_fewest, .ref q_t_left, .ref q_t_open, .ref q_t_ahead, .int t_openCount, .ref q_t_chained, .int (0 : Int32)])), (q_t_places, .inl (cI, 12, .inl t_places)), (q_t_stock, .inl (cI, 12, .inl t_stock)), (q_t_step, .inl (cI, 12, .inl t_step)), (q_t_gaps, .inl (cI, 156, .inl t_gaps)), (q_t_fewest, .inl (cB, n_t_fewest, .inl t_fewest)), (q_t_left, .inl (cI, 12, .inl t_stock)), (q_t_open, .inl (cI, 12, .inl t_open)), (q_t_ahead, .inl (cI, 12, .inl t_ahead)), (q_t_chained, .inl (cI, 12, .inl t_chained))]) := hD
  refine lv_aload_n hx hb dX0_readChain_20 rfl (lv_at hl 0 rfl) ?_
  refine va_get (v := .int t_codes) hx hb hts iX0 hown hK hP 0 rfl rfl 7 (by decide) (hts _ mX0_readChain_8) (fun _ h9 => h9) rfl dX0_readChain_21 ?_
  refine lv_iconst (v := 1) hx hb dX0_readChain_24 (by decide) ?_
  refine lv_isub hx hb dX0_readChain_25 ?_
  refine lv_istore_n (lv' := [(1, .int (t_codes - (1 : Int32))), (0, .ref q_t)]) hx hb dX0_readChain_26 rfl hl (by decide) rfl (fun ls hl => ?_)
  refine lv_bipush (v := 12) hx hb dX0_readChain_27 (by decide) ?_
  refine lv_istore_n (lv' := [(2, .int (12 : Int32)), (1, .int (t_codes - (1 : Int32))), (0, .ref q_t)]) hx hb dX0_readChain_29 rfl hl (by decide) rfl (fun ls hl => ?_)
  refine lv_iconst (v := 0) hx hb dX0_readChain_30 (by decide) ?_
  refine lv_istore_n (lv' := [(3, .int (0 : Int32)), (2, .int (12 : Int32)), (1, .int (t_codes - (1 : Int32))), (0, .ref q_t)]) hx hb dX0_readChain_31 rfl hl (by decide) rfl (fun ls hl => ?_)
  have hL_32 : ∀ (n_32 : Nat) (x1_1 : Int32) (x2_2 : Int32) (x3_3 : Int32) (t_left_4 : (Nat → Int32)) (t_open_5 : (Nat → Int32)) (t_ahead_6 : (Nat → Int32)) (t_openCount_7 : Int32) (t_chained_8 : (Nat → Int32)) (t_changes_9 : Int32) (H : Heap) (locs : List Loc) (ls : Array Slot), wl (wbX0_readChain_32 t_placeCount t_places t_step t_gaps n_t_fewest t_fewest k) n_32 (x1_1, x2_2, x3_3, t_left_4, t_open_5, t_ahead_6, t_openCount_7, t_chained_8, t_changes_9) → va_P D vwCl ([(q_t, .inr (0, [.ref q_t_askedTimes, .int t_asked, .ref q_t_places, .ref q_t_stock, .ref q_t_step, .ref q_t_gaps, .int t_placeCount, .int t_codes, .ref q_t_fewest, .ref q_t_left, .ref q_t_open, .ref q_t_ahead, .int t_openCount_7, .ref q_t_chained, .int t_changes_9])), (q_t_places, .inl (cI, 12, .inl t_places)), (q_t_stock, .inl (cI, 12, .inl t_stock)), (q_t_step, .inl (cI, 12, .inl t_step)), (q_t_gaps, .inl (cI, 156, .inl t_gaps)), (q_t_fewest, .inl (cB, n_t_fewest, .inl t_fewest)), (q_t_left, .inl (cI, 12, .inl t_left_4)), (q_t_open, .inl (cI, 12, .inl t_open_5)), (q_t_ahead, .inl (cI, 12, .inl t_ahead_6)), (q_t_chained, .inl (cI, 12, .inl t_chained_8))]) H → va_D A ([(q_t, .inr (0, [.ref q_t_askedTimes, .int t_asked, .ref q_t_places, .ref q_t_stock, .ref q_t_step, .ref q_t_gaps, .int t_placeCount, .int t_codes, .ref q_t_fewest, .ref q_t_left, .ref q_t_open, .ref q_t_ahead, .int t_openCount_7, .ref q_t_chained, .int t_changes_9])), (q_t_places, .inl (cI, 12, .inl t_places)), (q_t_stock, .inl (cI, 12, .inl t_stock)), (q_t_step, .inl (cI, 12, .inl t_step)), (q_t_gaps, .inl (cI, 156, .inl t_gaps)), (q_t_fewest, .inl (cB, n_t_fewest, .inl t_fewest)), (q_t_left, .inl (cI, 12, .inl t_left_4)), (q_t_open, .inl (cI, 12, .inl t_open_5)), (q_t_ahead, .inl (cI, 12, .inl t_ahead_6)), (q_t_chained, .inl (cI, 12, .inl t_chained_8))]) → va_S A s.heap H locs → lv_has ls 5 [(0, .ref q_t), (1, .int x1_1), (2, .int x2_2), (3, .int x3_3)] → W p l e rmX0_readChain s m args below meth c H locs 0 0 Q (F0 m 32 ls []) := by
    intro n_32
    induction n_32 with
    | zero => intro x1_1 x2_2 x3_3 t_left_4 t_open_5 t_ahead_6 t_openCount_7 t_chained_8 t_changes_9 H locs ls h; exact h.elim
    | succ n_32 ih_32 =>
      intro x1_1 x2_2 x3_3 t_left_4 t_open_5 t_ahead_6 t_openCount_7 t_chained_8 t_changes_9 H locs ls h hP hD hS hl
      rw [wl, wbX0_readChain_32] at h
      refine lv_iload_n hx hb dX0_readChain_32 rfl (lv_at hl 3 rfl) ?_
      refine lv_bipush (v := 12) hx hb dX0_readChain_33 (by decide) ?_
      obtain ⟨hp_10, hn_10⟩ := h
      refine lv_icmp_ge (tgt := 123) hx hb dX0_readChain_35 (by decide) (fun hc => ?_) (fun hc => ?_)
      · have h := hp_10 hc
        subst hQ
        exact vr_V (t_left_4, t_open_5, t_ahead_6, t_openCount_7, t_chained_8, t_changes_9) hx hb hr hlk hP hD hS [0, 1, 2, 3, 4, 5, 6, 7, 8, 9] rfl rfl h dX0_readChain_123
      · have h := hn_10 hc
        refine lv_iload_n hx hb dX0_readChain_38 rfl (lv_at hl 1 rfl) ?_
        obtain ⟨hp_11, hn_11⟩ := h
        refine lv_if_le (tgt := 123) hx hb dX0_readChain_39 (by decide) (fun hc => ?_) (fun hc => ?_)
        · have h := hp_11 hc
          subst hQ
          exact vr_V (t_left_4, t_open_5, t_ahead_6, t_openCount_7, t_chained_8, t_changes_9) hx hb hr hlk hP hD hS [0, 1, 2, 3, 4, 5, 6, 7, 8, 9] rfl rfl h dX0_readChain_123
        · have h := hn_11 hc
          refine lv_aload_n hx hb dX0_readChain_42 rfl (lv_at hl 0 rfl) ?_
          refine lv_iload_n hx hb dX0_readChain_43 rfl (lv_at hl 1 rfl) ?_
          refine vc_VV (As := [.int x1_1]) (rest := []) (wr := [(q_t_places, .inl (cI, 12, .inl t_places)), (q_t_stock, .inl (cI, 12, .inl t_stock)), (q_t_gaps, .inl (cI, 156, .inl t_gaps)), (q_t_chained, .inl (cI, 12, .inl t_chained_8))]) ⟨hx, hb, hml, hown, hts⟩ (ctX0_listOpen l D cB cI cJ cZ cR tz q_t q_t_askedTimes q_t_places q_t_stock q_t_step q_t_gaps q_t_fewest q_t_left q_t_open q_t_ahead q_t_chained t_asked t_placeCount t_codes t_openCount_7 t_changes_9 t_step n_t_fewest t_fewest t_left_4 t_open_5 t_ahead_6 x1_1 _ h) (cwV 1 hts gX0_readChain_X0_listOpen rfl rfl rfl hdX0_listOpen ⟨Nat.le_of_ble_eq_true rfl, Nat.le_of_ble_eq_true rfl⟩) hK hP hD hS hA hT [0, 3, 5, 6, 7, 8] [1, 2, 4, 9] rfl rfl rfl rfl (by decide) 0 0 rfl rfl rfl rfl hl.1 (Nat.le_of_ble_eq_true rfl) dX0_readChain_44 ⟨Nat.le_of_ble_eq_true rfl, Nat.le_of_ble_eq_true rfl⟩ (fun u9 H locs h hP hD hS => ?_)
          obtain ⟨t_open_12, t_ahead_13, t_openCount_14⟩ := u9
          have hP : va_P D vwCl ([(q_t, .inr (0, [.ref q_t_askedTimes, .int t_asked, .ref q_t_places, .ref q_t_stock, .ref q_t_step, .ref q_t_gaps, .int t_placeCount, .int t_codes, .ref q_t_fewest, .ref q_t_left, .ref q_t_open, .ref q_t_ahead, .int t_openCount_14, .ref q_t_chained, .int t_changes_9])), (q_t_places, .inl (cI, 12, .inl t_places)), (q_t_stock, .inl (cI, 12, .inl t_stock)), (q_t_step, .inl (cI, 12, .inl t_step)), (q_t_gaps, .inl (cI, 156, .inl t_gaps)), (q_t_fewest, .inl (cB, n_t_fewest, .inl t_fewest)), (q_t_left, .inl (cI, 12, .inl t_left_4)), (q_t_open, .inl (cI, 12, .inl t_open_12)), (q_t_ahead, .inl (cI, 12, .inl t_ahead_13)), (q_t_chained, .inl (cI, 12, .inl t_chained_8))]) H := hP.sub [4, 0, 1, 5, 2, 6, 7, 8, 9, 3] rfl
          have hD : va_D A ([(q_t, .inr (0, [.ref q_t_askedTimes, .int t_asked, .ref q_t_places, .ref q_t_stock, .ref q_t_step, .ref q_t_gaps, .int t_placeCount, .int t_codes, .ref q_t_fewest, .ref q_t_left, .ref q_t_open, .ref q_t_ahead, .int t_openCount_14, .ref q_t_chained, .int t_changes_9])), (q_t_places, .inl (cI, 12, .inl t_places)), (q_t_stock, .inl (cI, 12, .inl t_stock)), (q_t_step, .inl (cI, 12, .inl t_step)), (q_t_gaps, .inl (cI, 156, .inl t_gaps)), (q_t_fewest, .inl (cB, n_t_fewest, .inl t_fewest)), (q_t_left, .inl (cI, 12, .inl t_left_4)), (q_t_open, .inl (cI, 12, .inl t_open_12)), (q_t_ahead, .inl (cI, 12, .inl t_ahead_13)), (q_t_chained, .inl (cI, 12, .inl t_chained_8))]) := hD.sub [4, 0, 1, 5, 2, 6, 7, 8, 9, 3] rfl rfl
          try dsimp only at h
          refine lv_aload_n hx hb dX0_readChain_47 rfl (lv_at hl 0 rfl) ?_
          refine va_get (v := .ref q_t_open) hx hb hts iX0 hown hK hP 0 rfl rfl 10 (by decide) (hts _ mX0_readChain_9) (fun _ h9 => h9) rfl dX0_readChain_48 ?_
          refine lv_aload_n hx hb dX0_readChain_51 rfl (lv_at hl 0 rfl) ?_
          refine lv_iload_n hx hb dX0_readChain_52 rfl (lv_at hl 2 rfl) ?_
          refine vc_VI (As := [.int x2_2]) (rest := [.ref q_t_open]) (wr := [(q_t_places, .inl (cI, 12, .inl t_places)), (q_t_stock, .inl (cI, 12, .inl t_stock)), (q_t_step, .inl (cI, 12, .inl t_step)), (q_t_fewest, .inl (cB, n_t_fewest, .inl t_fewest)), (q_t_left, .inl (cI, 12, .inl t_left_4)), (q_t_chained, .inl (cI, 12, .inl t_chained_8))]) ⟨hx, hb, hml, hown, hts⟩ (ctX0_firstLeast l D cB cI cJ cZ cR tz q_t q_t_askedTimes q_t_places q_t_stock q_t_step q_t_gaps q_t_fewest q_t_left q_t_open q_t_ahead q_t_chained t_asked t_placeCount t_codes t_openCount_14 t_changes_9 t_gaps t_open_12 t_ahead_13 x2_2 _ h) (cwV 1 hts gX0_readChain_X0_firstLeast rfl rfl rfl hdX0_firstLeast ⟨Nat.le_of_ble_eq_true rfl, Nat.le_of_ble_eq_true rfl⟩) hK hP hD hS hA hT [0, 4, 7, 8] [1, 2, 3, 5, 6, 9] rfl rfl rfl rfl (by decide) 0 0 rfl rfl rfl rfl hl.1 (Nat.le_of_ble_eq_true rfl) dX0_readChain_53 ⟨Nat.le_of_ble_eq_true rfl, Nat.le_of_ble_eq_true rfl⟩ (fun r_15 u9 H locs h hP hD hS => ?_)
          have hP : va_P D vwCl ([(q_t, .inr (0, [.ref q_t_askedTimes, .int t_asked, .ref q_t_places, .ref q_t_stock, .ref q_t_step, .ref q_t_gaps, .int t_placeCount, .int t_codes, .ref q_t_fewest, .ref q_t_left, .ref q_t_open, .ref q_t_ahead, .int t_openCount_14, .ref q_t_chained, .int t_changes_9])), (q_t_places, .inl (cI, 12, .inl t_places)), (q_t_stock, .inl (cI, 12, .inl t_stock)), (q_t_step, .inl (cI, 12, .inl t_step)), (q_t_gaps, .inl (cI, 156, .inl t_gaps)), (q_t_fewest, .inl (cB, n_t_fewest, .inl t_fewest)), (q_t_left, .inl (cI, 12, .inl t_left_4)), (q_t_open, .inl (cI, 12, .inl t_open_12)), (q_t_ahead, .inl (cI, 12, .inl t_ahead_13)), (q_t_chained, .inl (cI, 12, .inl t_chained_8))]) H := hP.sub [6, 0, 1, 2, 7, 3, 4, 8, 9, 5] rfl
          have hD : va_D A ([(q_t, .inr (0, [.ref q_t_askedTimes, .int t_asked, .ref q_t_places, .ref q_t_stock, .ref q_t_step, .ref q_t_gaps, .int t_placeCount, .int t_codes, .ref q_t_fewest, .ref q_t_left, .ref q_t_open, .ref q_t_ahead, .int t_openCount_14, .ref q_t_chained, .int t_changes_9])), (q_t_places, .inl (cI, 12, .inl t_places)), (q_t_stock, .inl (cI, 12, .inl t_stock)), (q_t_step, .inl (cI, 12, .inl t_step)), (q_t_gaps, .inl (cI, 156, .inl t_gaps)), (q_t_fewest, .inl (cB, n_t_fewest, .inl t_fewest)), (q_t_left, .inl (cI, 12, .inl t_left_4)), (q_t_open, .inl (cI, 12, .inl t_open_12)), (q_t_ahead, .inl (cI, 12, .inl t_ahead_13)), (q_t_chained, .inl (cI, 12, .inl t_chained_8))]) := hD.sub [6, 0, 1, 2, 7, 3, 4, 8, 9, 5] rfl rfl
          try dsimp only at h
          obtain ⟨hi_16, h⟩ := h
          refine vi_ald hx hb hK hP 7 1 rfl rfl hi_16 rfl dX0_readChain_56 ?_
          refine lv_istore (lv' := [(4, .int (t_open_12 (r_15.toNatClampNeg))), (0, .ref q_t), (1, .int x1_1), (2, .int x2_2), (3, .int x3_3)]) hx hb dX0_readChain_57 hl (by decide) rfl (fun ls hl => ?_)
          refine lv_aload_n hx hb dX0_readChain_59 rfl (lv_at hl 1 rfl) ?_
          refine lv_dup hx hb dX0_readChain_60 rfl ?_
          refine va_get (v := .int t_changes_9) hx hb hts iX0 hown hK hP 0 rfl rfl 14 (by decide) (hts _ mX0_readChain_7) (fun _ h9 => h9) rfl dX0_readChain_61 ?_
          refine lv_aload_n hx hb dX0_readChain_64 rfl (lv_at hl 1 rfl) ?_
          refine va_get (v := .ref q_t_gaps) hx hb hts iX0 hown hK hP 0 rfl rfl 5 (by decide) (hts _ mX0_readChain_10) (fun _ h9 => h9) rfl dX0_readChain_65 ?_
          refine lv_iload_n hx hb dX0_readChain_68 rfl (lv_at hl 3 rfl) ?_
          refine lv_bipush (v := 12) hx hb dX0_readChain_69 (by decide) ?_
          refine lv_imul hx hb dX0_readChain_71 ?_
          refine lv_iload hx hb dX0_readChain_72 (lv_at hl 0 rfl) ?_
          refine lv_iadd hx hb dX0_readChain_74 ?_
          obtain ⟨hi_17, h⟩ := h
          refine vi_ald hx hb hK hP 4 1 rfl rfl hi_17 rfl dX0_readChain_75 ?_
          refine lv_iadd hx hb dX0_readChain_76 ?_
          refine va_put (v := .int (t_changes_9 + (t_gaps (((x2_2 * (12 : Int32)) + (t_open_12 (r_15.toNatClampNeg))).toNatClampNeg)))) (ty := .int) hx hb hts iX0 tyX0 tyX0_ok nmX0 hown hK hP hD hS 0 rfl rfl 14 (by decide) (hts _ mX0_readChain_7) (fun _ h9 => h9) rfl (tyX0_ok 14 (by decide)) rfl rfl (Nat.le_of_ble_eq_true rfl) dX0_readChain_77 (fun H locs hP hD hS => ?_)
          have hP : va_P D vwCl ([(q_t, .inr (0, [.ref q_t_askedTimes, .int t_asked, .ref q_t_places, .ref q_t_stock, .ref q_t_step, .ref q_t_gaps, .int t_placeCount, .int t_codes, .ref q_t_fewest, .ref q_t_left, .ref q_t_open, .ref q_t_ahead, .int t_openCount_14, .ref q_t_chained, .int (t_changes_9 + (t_gaps (((x2_2 * (12 : Int32)) + (t_open_12 (r_15.toNatClampNeg))).toNatClampNeg)))])), (q_t_places, .inl (cI, 12, .inl t_places)), (q_t_stock, .inl (cI, 12, .inl t_stock)), (q_t_step, .inl (cI, 12, .inl t_step)), (q_t_gaps, .inl (cI, 156, .inl t_gaps)), (q_t_fewest, .inl (cB, n_t_fewest, .inl t_fewest)), (q_t_left, .inl (cI, 12, .inl t_left_4)), (q_t_open, .inl (cI, 12, .inl t_open_12)), (q_t_ahead, .inl (cI, 12, .inl t_ahead_13)), (q_t_chained, .inl (cI, 12, .inl t_chained_8))]) H := hP
          have hD : va_D A ([(q_t, .inr (0, [.ref q_t_askedTimes, .int t_asked, .ref q_t_places, .ref q_t_stock, .ref q_t_step, .ref q_t_gaps, .int t_placeCount, .int t_codes, .ref q_t_fewest, .ref q_t_left, .ref q_t_open, .ref q_t_ahead, .int t_openCount_14, .ref q_t_chained, .int (t_changes_9 + (t_gaps (((x2_2 * (12 : Int32)) + (t_open_12 (r_15.toNatClampNeg))).toNatClampNeg)))])), (q_t_places, .inl (cI, 12, .inl t_places)), (q_t_stock, .inl (cI, 12, .inl t_stock)), (q_t_step, .inl (cI, 12, .inl t_step)), (q_t_gaps, .inl (cI, 156, .inl t_gaps)), (q_t_fewest, .inl (cB, n_t_fewest, .inl t_fewest)), (q_t_left, .inl (cI, 12, .inl t_left_4)), (q_t_open, .inl (cI, 12, .inl t_open_12)), (q_t_ahead, .inl (cI, 12, .inl t_ahead_13)), (q_t_chained, .inl (cI, 12, .inl t_chained_8))]) := hD
          refine lv_aload_n hx hb dX0_readChain_80 rfl (lv_at hl 1 rfl) ?_
          refine va_get (v := .ref q_t_chained) hx hb hts iX0 hown hK hP 0 rfl rfl 13 (by decide) (hts _ mX0_readChain_11) (fun _ h9 => h9) rfl dX0_readChain_81 ?_
          refine lv_iload_n hx hb dX0_readChain_84 rfl (lv_at hl 4 rfl) ?_
          refine lv_aload_n hx hb dX0_readChain_85 rfl (lv_at hl 1 rfl) ?_
          refine va_get (v := .ref q_t_places) hx hb hts iX0 hown hK hP 0 rfl rfl 2 (by decide) (hts _ mX0_readChain_12) (fun _ h9 => h9) rfl dX0_readChain_86 ?_
          refine lv_iload hx hb dX0_readChain_89 (lv_at hl 0 rfl) ?_
          obtain ⟨hi_18, h⟩ := h
          refine vi_ald hx hb hK hP 1 1 rfl rfl hi_18 rfl dX0_readChain_91 ?_
          obtain ⟨hi_19, h⟩ := h
          refine vi_ast (x := t_places ((t_open_12 (r_15.toNatClampNeg)).toNatClampNeg)) hx hb hK hP hD hS 9 1 rfl rfl hi_19 rfl dX0_readChain_92 (fun H locs hP hD hS => ?_)
          have hP : va_P D vwCl ([(q_t, .inr (0, [.ref q_t_askedTimes, .int t_asked, .ref q_t_places, .ref q_t_stock, .ref q_t_step, .ref q_t_gaps, .int t_placeCount, .int t_codes, .ref q_t_fewest, .ref q_t_left, .ref q_t_open, .ref q_t_ahead, .int t_openCount_14, .ref q_t_chained, .int (t_changes_9 + (t_gaps (((x2_2 * (12 : Int32)) + (t_open_12 (r_15.toNatClampNeg))).toNatClampNeg)))])), (q_t_places, .inl (cI, 12, .inl t_places)), (q_t_stock, .inl (cI, 12, .inl t_stock)), (q_t_step, .inl (cI, 12, .inl t_step)), (q_t_gaps, .inl (cI, 156, .inl t_gaps)), (q_t_fewest, .inl (cB, n_t_fewest, .inl t_fewest)), (q_t_left, .inl (cI, 12, .inl t_left_4)), (q_t_open, .inl (cI, 12, .inl t_open_12)), (q_t_ahead, .inl (cI, 12, .inl t_ahead_13)), (q_t_chained, .inl (cI, 12, .inl (upd t_chained_8 (x3_3.toNatClampNeg) (t_places ((t_open_12 (r_15.toNatClampNeg)).toNatClampNeg)))))]) H := hP
          have hD : va_D A ([(q_t, .inr (0, [.ref q_t_askedTimes, .int t_asked, .ref q_t_places, .ref q_t_stock, .ref q_t_step, .ref q_t_gaps, .int t_placeCount, .int t_codes, .ref q_t_fewest, .ref q_t_left, .ref q_t_open, .ref q_t_ahead, .int t_openCount_14, .ref q_t_chained, .int (t_changes_9 + (t_gaps (((x2_2 * (12 : Int32)) + (t_open_12 (r_15.toNatClampNeg))).toNatClampNeg)))])), (q_t_places, .inl (cI, 12, .inl t_places)), (q_t_stock, .inl (cI, 12, .inl t_stock)), (q_t_step, .inl (cI, 12, .inl t_step)), (q_t_gaps, .inl (cI, 156, .inl t_gaps)), (q_t_fewest, .inl (cB, n_t_fewest, .inl t_fewest)), (q_t_left, .inl (cI, 12, .inl t_left_4)), (q_t_open, .inl (cI, 12, .inl t_open_12)), (q_t_ahead, .inl (cI, 12, .inl t_ahead_13)), (q_t_chained, .inl (cI, 12, .inl (upd t_chained_8 (x3_3.toNatClampNeg) (t_places ((t_open_12 (r_15.toNatClampNeg)).toNatClampNeg)))))]) := hD
          refine lv_aload_n hx hb dX0_readChain_93 rfl (lv_at hl 1 rfl) ?_
          refine va_get (v := .ref q_t_left) hx hb hts iX0 hown hK hP 0 rfl rfl 9 (by decide) (hts _ mX0_readChain_2) (fun _ h9 => h9) rfl dX0_readChain_94 ?_
          refine lv_iload hx hb dX0_readChain_97 (lv_at hl 0 rfl) ?_
          refine lv_dup2_11 hx hb dX0_readChain_99 rfl rfl ?_
          obtain ⟨hi_20, h⟩ := h
          refine vi_ald hx hb hK hP 6 1 rfl rfl hi_20 rfl dX0_readChain_100 ?_
          refine lv_iconst (v := 1) hx hb dX0_readChain_101 (by decide) ?_
          refine lv_isub hx hb dX0_readChain_102 ?_
          obtain ⟨hi_21, h⟩ := h
          refine vi_ast (x := (t_left_4 ((t_open_12 (r_15.toNatClampNeg)).toNatClampNeg)) - (1 : Int32)) hx hb hK hP hD hS 6 1 rfl rfl hi_21 rfl dX0_readChain_103 (fun H locs hP hD hS => ?_)
          have hP : va_P D vwCl ([(q_t, .inr (0, [.ref q_t_askedTimes, .int t_asked, .ref q_t_places, .ref q_t_stock, .ref q_t_step, .ref q_t_gaps, .int t_placeCount, .int t_codes, .ref q_t_fewest, .ref q_t_left, .ref q_t_open, .ref q_t_ahead, .int t_openCount_14, .ref q_t_chained, .int (t_changes_9 + (t_gaps (((x2_2 * (12 : Int32)) + (t_open_12 (r_15.toNatClampNeg))).toNatClampNeg)))])), (q_t_places, .inl (cI, 12, .inl t_places)), (q_t_stock, .inl (cI, 12, .inl t_stock)), (q_t_step, .inl (cI, 12, .inl t_step)), (q_t_gaps, .inl (cI, 156, .inl t_gaps)), (q_t_fewest, .inl (cB, n_t_fewest, .inl t_fewest)), (q_t_left, .inl (cI, 12, .inl (upd t_left_4 ((t_open_12 (r_15.toNatClampNeg)).toNatClampNeg) ((t_left_4 ((t_open_12 (r_15.toNatClampNeg)).toNatClampNeg)) - (1 : Int32))))), (q_t_open, .inl (cI, 12, .inl t_open_12)), (q_t_ahead, .inl (cI, 12, .inl t_ahead_13)), (q_t_chained, .inl (cI, 12, .inl (upd t_chained_8 (x3_3.toNatClampNeg) (t_places ((t_open_12 (r_15.toNatClampNeg)).toNatClampNeg)))))]) H := hP
          have hD : va_D A ([(q_t, .inr (0, [.ref q_t_askedTimes, .int t_asked, .ref q_t_places, .ref q_t_stock, .ref q_t_step, .ref q_t_gaps, .int t_placeCount, .int t_codes, .ref q_t_fewest, .ref q_t_left, .ref q_t_open, .ref q_t_ahead, .int t_openCount_14, .ref q_t_chained, .int (t_changes_9 + (t_gaps (((x2_2 * (12 : Int32)) + (t_open_12 (r_15.toNatClampNeg))).toNatClampNeg)))])), (q_t_places, .inl (cI, 12, .inl t_places)), (q_t_stock, .inl (cI, 12, .inl t_stock)), (q_t_step, .inl (cI, 12, .inl t_step)), (q_t_gaps, .inl (cI, 156, .inl t_gaps)), (q_t_fewest, .inl (cB, n_t_fewest, .inl t_fewest)), (q_t_left, .inl (cI, 12, .inl (upd t_left_4 ((t_open_12 (r_15.toNatClampNeg)).toNatClampNeg) ((t_left_4 ((t_open_12 (r_15.toNatClampNeg)).toNatClampNeg)) - (1 : Int32))))), (q_t_open, .inl (cI, 12, .inl t_open_12)), (q_t_ahead, .inl (cI, 12, .inl t_ahead_13)), (q_t_chained, .inl (cI, 12, .inl (upd t_chained_8 (x3_3.toNatClampNeg) (t_places ((t_open_12 (r_15.toNatClampNeg)).toNatClampNeg)))))]) := hD
          refine lv_iload_n hx hb dX0_readChain_104 rfl (lv_at hl 2 rfl) ?_
          refine lv_aload_n hx hb dX0_readChain_105 rfl (lv_at hl 1 rfl) ?_
          refine va_get (v := .ref q_t_step) hx hb hts iX0 hown hK hP 0 rfl rfl 4 (by decide) (hts _ mX0_readChain_13) (fun _ h9 => h9) rfl dX0_readChain_106 ?_
          refine lv_iload hx hb dX0_readChain_109 (lv_at hl 0 rfl) ?_
          obtain ⟨hi_22, h⟩ := h
          refine vi_ald hx hb hK hP 3 1 rfl rfl hi_22 rfl dX0_readChain_111 ?_
          refine lv_isub hx hb dX0_readChain_112 ?_
          refine lv_istore_n (lv' := [(1, .int (x1_1 - (t_step ((t_open_12 (r_15.toNatClampNeg)).toNatClampNeg)))), (4, .int (t_open_12 (r_15.toNatClampNeg))), (0, .ref q_t), (2, .int x2_2), (3, .int x3_3)]) hx hb dX0_readChain_113 rfl hl (by decide) rfl (fun ls hl => ?_)
          refine lv_iload hx hb dX0_readChain_114 (lv_at hl 1 rfl) ?_
          refine lv_istore_n (lv' := [(2, .int (t_open_12 (r_15.toNatClampNeg))), (1, .int (x1_1 - (t_step ((t_open_12 (r_15.toNatClampNeg)).toNatClampNeg)))), (4, .int (t_open_12 (r_15.toNatClampNeg))), (0, .ref q_t), (3, .int x3_3)]) hx hb dX0_readChain_116 rfl hl (by decide) rfl (fun ls hl => ?_)
          refine lv_iinc (v := x3_3 + (1 : Int32)) (lv' := [(3, .int (x3_3 + (1 : Int32))), (2, .int (t_open_12 (r_15.toNatClampNeg))), (1, .int (x1_1 - (t_step ((t_open_12 (r_15.toNatClampNeg)).toNatClampNeg)))), (4, .int (t_open_12 (r_15.toNatClampNeg))), (0, .ref q_t)]) hx hb dX0_readChain_117 hl (k := 4) rfl rfl (by decide) rfl (fun ls hl => ?_)
          refine lv_goto (tgt := 32) hx hb dX0_readChain_120 (by decide) ?_
          exact ih_32 (x1_1 - (t_step ((t_open_12 (r_15.toNatClampNeg)).toNatClampNeg))) (t_open_12 (r_15.toNatClampNeg)) (x3_3 + (1 : Int32)) (upd t_left_4 ((t_open_12 (r_15.toNatClampNeg)).toNatClampNeg) ((t_left_4 ((t_open_12 (r_15.toNatClampNeg)).toNatClampNeg)) - (1 : Int32))) t_open_12 t_ahead_13 t_openCount_14 (upd t_chained_8 (x3_3.toNatClampNeg) (t_places ((t_open_12 (r_15.toNatClampNeg)).toNatClampNeg))) (t_changes_9 + (t_gaps (((x2_2 * (12 : Int32)) + (t_open_12 (r_15.toNatClampNeg))).toNatClampNeg))) _ _ _ h hP hD hS (lv_sub hl [4, 2, 1, 0] rfl)
  obtain ⟨n_32, h⟩ := h
  exact hL_32 n_32 (t_codes - (1 : Int32)) (12 : Int32) (0 : Int32) t_stock t_open t_ahead t_openCount t_chained (0 : Int32) _ _ _ h hP hD hS (lv_sub hl [3, 2, 1, 0] rfl)
theorem mX0_find_1 : Cond.fieldLink RX0 9 "TrialDesk$ChainSearch" "askedTimes" "[I" ∈ wsX0_find := List.mem_of_getElem? (i := 1) (by decide +kernel)
theorem mX0_find_2 : Cond.methodLink RX0 47 arraycopyName ∈ wsX0_find := List.mem_of_getElem? (i := 2) (by decide +kernel)
theorem mX0_find_3 : Cond.native arraycopyName ∈ wsX0_find := List.mem_of_getElem? (i := 3) (by decide +kernel)
theorem mX0_find_4 : Cond.static arraycopyName ∈ wsX0_find := List.mem_of_getElem? (i := 4) (by decide +kernel)
theorem mX0_find_5 : Cond.initialized "java/lang/System" ∈ wsX0_find := List.mem_of_getElem? (i := 5) (by decide +kernel)
theorem mX0_find_6 : Cond.fieldLink RX0 53 "TrialDesk$ChainSearch" "asked" "Z" ∈ wsX0_find := List.mem_of_getElem? (i := 6) (by decide +kernel)
theorem mX0_find_7 : Cond.fieldLink RX0 63 "TrialDesk$ChainSearch" "codes" "I" ∈ wsX0_find := List.mem_of_getElem? (i := 7) (by decide +kernel)
theorem mX0_find_8 : Cond.fieldLink RX0 67 "TrialDesk$ChainSearch" "placeCount" "I" ∈ wsX0_find := List.mem_of_getElem? (i := 8) (by decide +kernel)
abbrev rmX0_find (bud : Nat) : Room := { frames := 2, cells := 1, slots := bud, locals := 94 }
set_option maxHeartbeats 4000000 in
set_option maxRecDepth 100000 in
theorem ctX0_find (l : Launch) (D : va_G) (cB cI cJ cZ cR : ClassId) (tz : Nat) (q_t : Nat) (q_t_askedTimes : Nat) (q_t_places : Nat) (q_t_stock : Nat) (q_t_step : Nat) (q_t_gaps : Nat) (q_t_fewest : Nat) (q_t_left : Nat) (q_t_open : Nat) (q_t_ahead : Nat) (q_t_chained : Nat) (q_p1 : Nat) (t_asked : Int32) (t_placeCount : Int32) (t_codes : Int32) (t_openCount : Int32) (t_changes : Int32) (t_askedTimes : (Nat → Int32)) (t_places : (Nat → Int32)) (t_stock : (Nat → Int32)) (t_step : (Nat → Int32)) (t_gaps : (Nat → Int32)) (n_t_fewest : Nat) (t_fewest : (Nat → Int32)) (t_left : (Nat → Int32)) (t_open : (Nat → Int32)) (t_ahead : (Nat → Int32)) (t_chained : (Nat → Int32)) (p1 : (Nat → Int32)) (bud : Nat) (k : (Nat → Int32) → Int32 → (Nat → Int32) → (Nat → Int32) → (Nat → Int32) → (Nat → Int32) → Int32 → Int32 → Nat → Nat → (Nat → Int32) → (Nat → Int32) → (Nat → Int32) → (Nat → Int32) → Int32 → (Nat → Int32) → Int32 → Prop) (h : wpX0_find t_askedTimes t_asked t_places t_stock t_step t_gaps t_placeCount t_codes q_t_fewest n_t_fewest t_fewest t_left t_open t_ahead t_openCount t_chained t_changes p1 bud k) : MV l yX0_find wsX0_find (rmX0_find bud) D (vTy cB cI cJ cZ cR) tz [.ref q_t, .ref q_p1] ([(q_t, .inr (0, [.ref q_t_askedTimes, .int t_asked, .ref q_t_places, .ref q_t_stock, .ref q_t_step, .ref q_t_gaps, .int t_placeCount, .int t_codes, .ref q_t_fewest, .ref q_t_left, .ref q_t_open, .ref q_t_ahead, .int t_openCount, .ref q_t_chained, .int t_changes])), (q_t_askedTimes, .inl (cI, 64, .inl t_askedTimes)), (q_t_places, .inl (cI, 12, .inl t_places)), (q_t_stock, .inl (cI, 12, .inl t_stock)), (q_t_step, .inl (cI, 12, .inl t_step)), (q_t_gaps, .inl (cI, 156, .inl t_gaps)), (q_t_fewest, .inl (cB, n_t_fewest, .inl t_fewest)), (q_t_left, .inl (cI, 12, .inl t_left)), (q_t_open, .inl (cI, 12, .inl t_open)), (q_t_ahead, .inl (cI, 12, .inl t_ahead)), (q_t_chained, .inl (cI, 12, .inl t_chained)), (q_p1, .inl (cI, 64, .inl p1))]) (fun (u : (Nat → Int32) × Int32 × (Nat → Int32) × (Nat → Int32) × (Nat → Int32) × (Nat → Int32) × Int32 × Int32 × Nat × Nat × (Nat → Int32) × (Nat → Int32) × (Nat → Int32) × (Nat → Int32) × Int32 × (Nat → Int32) × Int32) => k u.1 u.2.1 u.2.2.1 u.2.2.2.1 u.2.2.2.2.1 u.2.2.2.2.2.1 u.2.2.2.2.2.2.1 u.2.2.2.2.2.2.2.1 u.2.2.2.2.2.2.2.2.1 u.2.2.2.2.2.2.2.2.2.1 u.2.2.2.2.2.2.2.2.2.2.1 u.2.2.2.2.2.2.2.2.2.2.2.1 u.2.2.2.2.2.2.2.2.2.2.2.2.1 u.2.2.2.2.2.2.2.2.2.2.2.2.2.1 u.2.2.2.2.2.2.2.2.2.2.2.2.2.2.1 u.2.2.2.2.2.2.2.2.2.2.2.2.2.2.2.1 u.2.2.2.2.2.2.2.2.2.2.2.2.2.2.2.2) (fun (u : (Nat → Int32) × Int32 × (Nat → Int32) × (Nat → Int32) × (Nat → Int32) × (Nat → Int32) × Int32 × Int32 × Nat × Nat × (Nat → Int32) × (Nat → Int32) × (Nat → Int32) × (Nat → Int32) × Int32 × (Nat → Int32) × Int32) => [(q_t, .inr (0, [.ref q_t_askedTimes, .int (u.2.1), .ref q_t_places, .ref q_t_stock, .ref q_t_step, .ref q_t_gaps, .int (u.2.2.2.2.2.2.1), .int (u.2.2.2.2.2.2.2.1), .ref (u.2.2.2.2.2.2.2.2.1), .ref q_t_left, .ref q_t_open, .ref q_t_ahead, .int (u.2.2.2.2.2.2.2.2.2.2.2.2.2.2.1), .ref q_t_chained, .int (u.2.2.2.2.2.2.2.2.2.2.2.2.2.2.2.2)])), (q_t_askedTimes, .inl (cI, 64, .inl (u.1))), (q_t_places, .inl (cI, 12, .inl (u.2.2.1))), (q_t_stock, .inl (cI, 12, .inl (u.2.2.2.1))), (q_t_step, .inl (cI, 12, .inl (u.2.2.2.2.1))), (q_t_gaps, .inl (cI, 156, .inl (u.2.2.2.2.2.1))), (u.2.2.2.2.2.2.2.2.1, .inl (cB, u.2.2.2.2.2.2.2.2.2.1, .inl (u.2.2.2.2.2.2.2.2.2.2.1))), (q_t_left, .inl (cI, 12, .inl (u.2.2.2.2.2.2.2.2.2.2.2.1))), (q_t_open, .inl (cI, 12, .inl (u.2.2.2.2.2.2.2.2.2.2.2.2.1))), (q_t_ahead, .inl (cI, 12, .inl (u.2.2.2.2.2.2.2.2.2.2.2.2.2.1))), (q_t_chained, .inl (cI, 12, .inl (u.2.2.2.2.2.2.2.2.2.2.2.2.2.2.2.1))), (q_p1, .inl (cI, 64, .inl p1))]) 1 bud := by
  refine MV.of (cc := cX0_find) (maxL := 2) (ret := none) (by decide) rfl (Nat.le_of_ble_eq_true rfl) ?_
  intro p e s m args below meth c A ls Q hQ E
  obtain ⟨hx, hb, hml, hr, hts, hown, hlk, hin, hP, hK, hD, hS, hA, hT, hl⟩ := E
  have hown : s.vm.findClass RX0 = some m.cls := hown
  have hl : lv_has ls 2 [(0, .ref q_t), (1, .ref q_p1)] := hl
  have iX0 : ∀ w ∈ wsX00, w ∈ wsX0_find := fun _ h => List.mem_cons_of_mem _ (List.mem_append_right _ h)
  unfold wpX0_find at h
  refine lv_aload_n hx hb dX0_find_0 rfl (lv_at hl 0 rfl) ?_
  refine lv_aload_n hx hb dX0_find_1 rfl (lv_at hl 1 rfl) ?_
  refine vc_VI (As := [.ref q_p1]) (rest := []) (wr := [(q_t_places, .inl (cI, 12, .inl t_places)), (q_t_stock, .inl (cI, 12, .inl t_stock)), (q_t_step, .inl (cI, 12, .inl t_step)), (q_t_gaps, .inl (cI, 156, .inl t_gaps)), (q_t_fewest, .inl (cB, n_t_fewest, .inl t_fewest)), (q_t_left, .inl (cI, 12, .inl t_left)), (q_t_open, .inl (cI, 12, .inl t_open)), (q_t_ahead, .inl (cI, 12, .inl t_ahead)), (q_t_chained, .inl (cI, 12, .inl t_chained))]) ⟨hx, hb, hml, hown, hts⟩ (ctX0_isAnswered l D cB cI cJ cZ cR tz q_t q_t_askedTimes q_t_places q_t_stock q_t_step q_t_gaps q_t_fewest q_t_left q_t_open q_t_ahead q_t_chained q_p1 t_asked t_placeCount t_codes t_openCount t_changes t_askedTimes p1 _ h) (cwV 1 hts gX0_find_X0_isAnswered rfl rfl rfl hdX0_isAnswered ⟨Nat.le_of_ble_eq_true rfl, Nat.le_of_ble_eq_true rfl⟩) hK hP hD hS hA hT [0, 1, 11] [2, 3, 4, 5, 6, 7, 8, 9, 10] rfl rfl rfl rfl (by decide) 0 0 rfl rfl rfl rfl hl.1 (Nat.le_of_ble_eq_true rfl) dX0_find_2 ⟨Nat.le_of_ble_eq_true rfl, (show 0 + 0 ≤ bud by omega)⟩ (fun r_1 u9 H locs h hP hD hS => ?_)
  have hP : va_P D vwCl ([(q_t, .inr (0, [.ref q_t_askedTimes, .int t_asked, .ref q_t_places, .ref q_t_stock, .ref q_t_step, .ref q_t_gaps, .int t_placeCount, .int t_codes, .ref q_t_fewest, .ref q_t_left, .ref q_t_open, .ref q_t_ahead, .int t_openCount, .ref q_t_chained, .int t_changes])), (q_t_askedTimes, .inl (cI, 64, .inl t_askedTimes)), (q_t_places, .inl (cI, 12, .inl t_places)), (q_t_stock, .inl (cI, 12, .inl t_stock)), (q_t_step, .inl (cI, 12, .inl t_step)), (q_t_gaps, .inl (cI, 156, .inl t_gaps)), (q_t_fewest, .inl (cB, n_t_fewest, .inl t_fewest)), (q_t_left, .inl (cI, 12, .inl t_left)), (q_t_open, .inl (cI, 12, .inl t_open)), (q_t_ahead, .inl (cI, 12, .inl t_ahead)), (q_t_chained, .inl (cI, 12, .inl t_chained)), (q_p1, .inl (cI, 64, .inl p1))]) H := hP.sub [9, 10, 0, 1, 2, 3, 4, 5, 6, 7, 8, 11] rfl
  have hD : va_D A ([(q_t, .inr (0, [.ref q_t_askedTimes, .int t_asked, .ref q_t_places, .ref q_t_stock, .ref q_t_step, .ref q_t_gaps, .int t_placeCount, .int t_codes, .ref q_t_fewest, .ref q_t_left, .ref q_t_open, .ref q_t_ahead, .int t_openCount, .ref q_t_chained, .int t_changes])), (q_t_askedTimes, .inl (cI, 64, .inl t_askedTimes)), (q_t_places, .inl (cI, 12, .inl t_places)), (q_t_stock, .inl (cI, 12, .inl t_stock)), (q_t_step, .inl (cI, 12, .inl t_step)), (q_t_gaps, .inl (cI, 156, .inl t_gaps)), (q_t_fewest, .inl (cB, n_t_fewest, .inl t_fewest)), (q_t_left, .inl (cI, 12, .inl t_left)), (q_t_open, .inl (cI, 12, .inl t_open)), (q_t_ahead, .inl (cI, 12, .inl t_ahead)), (q_t_chained, .inl (cI, 12, .inl t_chained)), (q_p1, .inl (cI, 64, .inl p1))]) := hD.sub [9, 10, 0, 1, 2, 3, 4, 5, 6, 7, 8, 11] rfl rfl
  try dsimp only at h
  obtain ⟨hp_2, hn_2⟩ := h
  refine lv_if_eq (tgt := 9) hx hb dX0_find_5 (by decide) (fun hc => ?_) (fun hc => ?_)
  · have h := hp_2 hc
    refine lv_aload_n hx hb dX0_find_9 rfl (lv_at hl 1 rfl) ?_
    refine lv_iconst (v := 0) hx hb dX0_find_10 (by decide) ?_
    refine lv_aload_n hx hb dX0_find_11 rfl (lv_at hl 0 rfl) ?_
    refine va_get (v := .ref q_t_askedTimes) hx hb hts iX0 hown hK hP 0 rfl rfl 0 (by decide) (hts _ mX0_find_1) (fun _ h9 => h9) rfl dX0_find_12 ?_
    refine lv_iconst (v := 0) hx hb dX0_find_15 (by decide) ?_
    refine lv_bipush (v := 64) hx hb dX0_find_16 (by decide) ?_
    refine vcp_i (k := 64) hx hb (hml.trans hl.1.symm) hown (hts _ mX0_find_2) (hts _ mX0_find_3) (hts _ mX0_find_4) (hts _ mX0_find_5) hK hP hD hS 11 1 rfl rfl rfl rfl (by decide) (by decide) (by decide) (by decide) rfl (Nat.le_of_ble_eq_true rfl) (Nat.le_of_ble_eq_true rfl) dX0_find_18 (fun H locs hP hD hS => ?_)
    have hP : va_P D vwCl ([(q_t, .inr (0, [.ref q_t_askedTimes, .int t_asked, .ref q_t_places, .ref q_t_stock, .ref q_t_step, .ref q_t_gaps, .int t_placeCount, .int t_codes, .ref q_t_fewest, .ref q_t_left, .ref q_t_open, .ref q_t_ahead, .int t_openCount, .ref q_t_chained, .int t_changes])), (q_t_askedTimes, .inl (cI, 64, .inl p1)), (q_t_places, .inl (cI, 12, .inl t_places)), (q_t_stock, .inl (cI, 12, .inl t_stock)), (q_t_step, .inl (cI, 12, .inl t_step)), (q_t_gaps, .inl (cI, 156, .inl t_gaps)), (q_t_fewest, .inl (cB, n_t_fewest, .inl t_fewest)), (q_t_left, .inl (cI, 12, .inl t_left)), (q_t_open, .inl (cI, 12, .inl t_open)), (q_t_ahead, .inl (cI, 12, .inl t_ahead)), (q_t_chained, .inl (cI, 12, .inl t_chained)), (q_p1, .inl (cI, 64, .inl p1))]) H := hP
    have hD : va_D A ([(q_t, .inr (0, [.ref q_t_askedTimes, .int t_asked, .ref q_t_places, .ref q_t_stock, .ref q_t_step, .ref q_t_gaps, .int t_placeCount, .int t_codes, .ref q_t_fewest, .ref q_t_left, .ref q_t_open, .ref q_t_ahead, .int t_openCount, .ref q_t_chained, .int t_changes])), (q_t_askedTimes, .inl (cI, 64, .inl p1)), (q_t_places, .inl (cI, 12, .inl t_places)), (q_t_stock, .inl (cI, 12, .inl t_stock)), (q_t_step, .inl (cI, 12, .inl t_step)), (q_t_gaps, .inl (cI, 156, .inl t_gaps)), (q_t_fewest, .inl (cB, n_t_fewest, .inl t_fewest)), (q_t_left, .inl (cI, 12, .inl t_left)), (q_t_open, .inl (cI, 12, .inl t_open)), (q_t_ahead, .inl (cI, 12, .inl t_ahead)), (q_t_chained, .inl (cI, 12, .inl t_chained)), (q_p1, .inl (cI, 64, .inl p1))]) := hD
    refine lv_aload_n hx hb dX0_find_21 rfl (lv_at hl 0 rfl) ?_
    refine lv_iconst (v := 1) hx hb dX0_find_22 (by decide) ?_
    refine va_put (v := .int (1 : Int32)) (ty := .boolean) hx hb hts iX0 tyX0 tyX0_ok nmX0 hown hK hP hD hS 0 rfl rfl 1 (by decide) (hts _ mX0_find_6) (fun _ h9 => h9) rfl (tyX0_ok 1 (by decide)) rfl rfl (Nat.le_of_ble_eq_true rfl) dX0_find_23 (fun H locs hP hD hS => ?_)
    have hP : va_P D vwCl ([(q_t, .inr (0, [.ref q_t_askedTimes, .int (1 : Int32), .ref q_t_places, .ref q_t_stock, .ref q_t_step, .ref q_t_gaps, .int t_placeCount, .int t_codes, .ref q_t_fewest, .ref q_t_left, .ref q_t_open, .ref q_t_ahead, .int t_openCount, .ref q_t_chained, .int t_changes])), (q_t_askedTimes, .inl (cI, 64, .inl p1)), (q_t_places, .inl (cI, 12, .inl t_places)), (q_t_stock, .inl (cI, 12, .inl t_stock)), (q_t_step, .inl (cI, 12, .inl t_step)), (q_t_gaps, .inl (cI, 156, .inl t_gaps)), (q_t_fewest, .inl (cB, n_t_fewest, .inl t_fewest)), (q_t_left, .inl (cI, 12, .inl t_left)), (q_t_open, .inl (cI, 12, .inl t_open)), (q_t_ahead, .inl (cI, 12, .inl t_ahead)), (q_t_chained, .inl (cI, 12, .inl t_chained)), (q_p1, .inl (cI, 64, .inl p1))]) H := hP
    have hD : va_D A ([(q_t, .inr (0, [.ref q_t_askedTimes, .int (1 : Int32), .ref q_t_places, .ref q_t_stock, .ref q_t_step, .ref q_t_gaps, .int t_placeCount, .int t_codes, .ref q_t_fewest, .ref q_t_left, .ref q_t_open, .ref q_t_ahead, .int t_openCount, .ref q_t_chained, .int t_changes])), (q_t_askedTimes, .inl (cI, 64, .inl p1)), (q_t_places, .inl (cI, 12, .inl t_places)), (q_t_stock, .inl (cI, 12, .inl t_stock)), (q_t_step, .inl (cI, 12, .inl t_step)), (q_t_gaps, .inl (cI, 156, .inl t_gaps)), (q_t_fewest, .inl (cB, n_t_fewest, .inl t_fewest)), (q_t_left, .inl (cI, 12, .inl t_left)), (q_t_open, .inl (cI, 12, .inl t_open)), (q_t_ahead, .inl (cI, 12, .inl t_ahead)), (q_t_chained, .inl (cI, 12, .inl t_chained)), (q_p1, .inl (cI, 64, .inl p1))]) := hD
    refine lv_aload_n hx hb dX0_find_26 rfl (lv_at hl 0 rfl) ?_
    refine vc_VV (As := []) (rest := []) (wr := [(q_t_gaps, .inl (cI, 156, .inl t_gaps)), (q_t_fewest, .inl (cB, n_t_fewest, .inl t_fewest)), (q_t_left, .inl (cI, 12, .inl t_left)), (q_t_open, .inl (cI, 12, .inl t_open)), (q_t_ahead, .inl (cI, 12, .inl t_ahead)), (q_t_chained, .inl (cI, 12, .inl t_chained)), (q_p1, .inl (cI, 64, .inl p1))]) ⟨hx, hb, hml, hown, hts⟩ (ctX0_gatherPlaces l D cB cI cJ cZ cR tz q_t q_t_askedTimes q_t_places q_t_stock q_t_step q_t_gaps q_t_fewest q_t_left q_t_open q_t_ahead q_t_chained (1 : Int32) t_placeCount t_codes t_openCount t_changes p1 t_places t_stock t_step _ h) (cwV 0 hts gX0_find_X0_gatherPlaces rfl rfl rfl hdX0_gatherPlaces ⟨Nat.le_of_ble_eq_true rfl, Nat.le_of_ble_eq_true rfl⟩) hK hP hD hS hA hT [0, 1, 2, 3, 4] [5, 6, 7, 8, 9, 10, 11] rfl rfl rfl rfl (by decide) 0 0 rfl rfl rfl rfl hl.1 (Nat.le_of_ble_eq_true rfl) dX0_find_27 ⟨Nat.le_of_ble_eq_true rfl, (show 0 + 0 ≤ bud by omega)⟩ (fun u9 H locs h hP hD hS => ?_)
    obtain ⟨t_places_3, t_stock_4, t_step_5, t_placeCount_6, t_codes_7⟩ := u9
    have hP : va_P D vwCl ([(q_t, .inr (0, [.ref q_t_askedTimes, .int (1 : Int32), .ref q_t_places, .ref q_t_stock, .ref q_t_step, .ref q_t_gaps, .int t_placeCount_6, .int t_codes_7, .ref q_t_fewest, .ref q_t_left, .ref q_t_open, .ref q_t_ahead, .int t_openCount, .ref q_t_chained, .int t_changes])), (q_t_askedTimes, .inl (cI, 64, .inl p1)), (q_t_places, .inl (cI, 12, .inl t_places_3)), (q_t_stock, .inl (cI, 12, .inl t_stock_4)), (q_t_step, .inl (cI, 12, .inl t_step_5)), (q_t_gaps, .inl (cI, 156, .inl t_gaps)), (q_t_fewest, .inl (cB, n_t_fewest, .inl t_fewest)), (q_t_left, .inl (cI, 12, .inl t_left)), (q_t_open, .inl (cI, 12, .inl t_open)), (q_t_ahead, .inl (cI, 12, .inl t_ahead)), (q_t_chained, .inl (cI, 12, .inl t_chained)), (q_p1, .inl (cI, 64, .inl p1))]) H := hP.sub [7, 8, 9, 10, 11, 0, 1, 2, 3, 4, 5, 6] rfl
    have hD : va_D A ([(q_t, .inr (0, [.ref q_t_askedTimes, .int (1 : Int32), .ref q_t_places, .ref q_t_stock, .ref q_t_step, .ref q_t_gaps, .int t_placeCount_6, .int t_codes_7, .ref q_t_fewest, .ref q_t_left, .ref q_t_open, .ref q_t_ahead, .int t_openCount, .ref q_t_chained, .int t_changes])), (q_t_askedTimes, .inl (cI, 64, .inl p1)), (q_t_places, .inl (cI, 12, .inl t_places_3)), (q_t_stock, .inl (cI, 12, .inl t_stock_4)), (q_t_step, .inl (cI, 12, .inl t_step_5)), (q_t_gaps, .inl (cI, 156, .inl t_gaps)), (q_t_fewest, .inl (cB, n_t_fewest, .inl t_fewest)), (q_t_left, .inl (cI, 12, .inl t_left)), (q_t_open, .inl (cI, 12, .inl t_open)), (q_t_ahead, .inl (cI, 12, .inl t_ahead)), (q_t_chained, .inl (cI, 12, .inl t_chained)), (q_p1, .inl (cI, 64, .inl p1))]) := hD.sub [7, 8, 9, 10, 11, 0, 1, 2, 3, 4, 5, 6] rfl rfl
    try dsimp only at h
    refine lv_aload_n hx hb dX0_find_30 rfl (lv_at hl 0 rfl) ?_
    refine vc_VV (As := []) (rest := []) (wr := [(q_t_askedTimes, .inl (cI, 64, .inl p1)), (q_t_stock, .inl (cI, 12, .inl t_stock_4)), (q_t_step, .inl (cI, 12, .inl t_step_5)), (q_t_fewest, .inl (cB, n_t_fewest, .inl t_fewest)), (q_t_left, .inl (cI, 12, .inl t_left)), (q_t_open, .inl (cI, 12, .inl t_open)), (q_t_ahead, .inl (cI, 12, .inl t_ahead)), (q_t_chained, .inl (cI, 12, .inl t_chained)), (q_p1, .inl (cI, 64, .inl p1))]) ⟨hx, hb, hml, hown, hts⟩ (ctX0_measureGaps l D cB cI cJ cZ cR tz q_t q_t_askedTimes q_t_places q_t_stock q_t_step q_t_gaps q_t_fewest q_t_left q_t_open q_t_ahead q_t_chained (1 : Int32) t_placeCount_6 t_codes_7 t_openCount t_changes t_places_3 t_gaps _ h) (cwV 0 hts gX0_find_X0_measureGaps rfl rfl rfl hdX0_measureGaps ⟨Nat.le_of_ble_eq_true rfl, Nat.le_of_ble_eq_true rfl⟩) hK hP hD hS hA hT [0, 2, 5] [1, 3, 4, 6, 7, 8, 9, 10, 11] rfl rfl rfl rfl (by decide) 0 0 rfl rfl rfl rfl hl.1 (Nat.le_of_ble_eq_true rfl) dX0_find_31 ⟨Nat.le_of_ble_eq_true rfl, (show 0 + 0 ≤ bud by omega)⟩ (fun t_gaps_8 H locs h hP hD hS => ?_)
    have hP : va_P D vwCl ([(q_t, .inr (0, [.ref q_t_askedTimes, .int (1 : Int32), .ref q_t_places, .ref q_t_stock, .ref q_t_step, .ref q_t_gaps, .int t_placeCount_6, .int t_codes_7, .ref q_t_fewest, .ref q_t_left, .ref q_t_open, .ref q_t_ahead, .int t_openCount, .ref q_t_chained, .int t_changes])), (q_t_askedTimes, .inl (cI, 64, .inl p1)), (q_t_places, .inl (cI, 12, .inl t_places_3)), (q_t_stock, .inl (cI, 12, .inl t_stock_4)), (q_t_step, .inl (cI, 12, .inl t_step_5)), (q_t_gaps, .inl (cI, 156, .inl t_gaps_8)), (q_t_fewest, .inl (cB, n_t_fewest, .inl t_fewest)), (q_t_left, .inl (cI, 12, .inl t_left)), (q_t_open, .inl (cI, 12, .inl t_open)), (q_t_ahead, .inl (cI, 12, .inl t_ahead)), (q_t_chained, .inl (cI, 12, .inl t_chained)), (q_p1, .inl (cI, 64, .inl p1))]) H := hP.sub [9, 0, 10, 1, 2, 11, 3, 4, 5, 6, 7, 8] rfl
    have hD : va_D A ([(q_t, .inr (0, [.ref q_t_askedTimes, .int (1 : Int32), .ref q_t_places, .ref q_t_stock, .ref q_t_step, .ref q_t_gaps, .int t_placeCount_6, .int t_codes_7, .ref q_t_fewest, .ref q_t_left, .ref q_t_open, .ref q_t_ahead, .int t_openCount, .ref q_t_chained, .int t_changes])), (q_t_askedTimes, .inl (cI, 64, .inl p1)), (q_t_places, .inl (cI, 12, .inl t_places_3)), (q_t_stock, .inl (cI, 12, .inl t_stock_4)), (q_t_step, .inl (cI, 12, .inl t_step_5)), (q_t_gaps, .inl (cI, 156, .inl t_gaps_8)), (q_t_fewest, .inl (cB, n_t_fewest, .inl t_fewest)), (q_t_left, .inl (cI, 12, .inl t_left)), (q_t_open, .inl (cI, 12, .inl t_open)), (q_t_ahead, .inl (cI, 12, .inl t_ahead)), (q_t_chained, .inl (cI, 12, .inl t_chained)), (q_p1, .inl (cI, 64, .inl p1))]) := hD.sub [9, 0, 10, 1, 2, 11, 3, 4, 5, 6, 7, 8] rfl rfl
    try dsimp only at h
    refine lv_aload_n hx hb dX0_find_34 rfl (lv_at hl 0 rfl) ?_
    refine lv_aload_n hx hb dX0_find_35 rfl (lv_at hl 0 rfl) ?_
    refine va_get (v := .int t_codes_7) hx hb hts iX0 hown hK hP 0 rfl rfl 7 (by decide) (hts _ mX0_find_7) (fun _ h9 => h9) rfl dX0_find_36 ?_
    refine lv_aload_n hx hb dX0_find_39 rfl (lv_at hl 0 rfl) ?_
    refine va_get (v := .int t_placeCount_6) hx hb hts iX0 hown hK hP 0 rfl rfl 6 (by decide) (hts _ mX0_find_8) (fun _ h9 => h9) rfl dX0_find_40 ?_
    refine lv_imul hx hb dX0_find_43 ?_
    refine vc_VV (As := [.int (t_codes_7 * t_placeCount_6)]) (rest := []) (wr := [(q_t_askedTimes, .inl (cI, 64, .inl p1)), (q_t_places, .inl (cI, 12, .inl t_places_3)), (q_t_stock, .inl (cI, 12, .inl t_stock_4)), (q_t_step, .inl (cI, 12, .inl t_step_5)), (q_t_gaps, .inl (cI, 156, .inl t_gaps_8)), (q_t_left, .inl (cI, 12, .inl t_left)), (q_t_open, .inl (cI, 12, .inl t_open)), (q_t_ahead, .inl (cI, 12, .inl t_ahead)), (q_t_chained, .inl (cI, 12, .inl t_chained)), (q_p1, .inl (cI, 64, .inl p1))]) ⟨hx, hb, hml, hown, hts⟩ (ctX0_makeRoom l D cB cI cJ cZ cR tz q_t q_t_askedTimes q_t_places q_t_stock q_t_step q_t_gaps q_t_fewest q_t_left q_t_open q_t_ahead q_t_chained (1 : Int32) t_placeCount_6 t_codes_7 t_openCount t_changes n_t_fewest t_fewest (t_codes_7 * t_placeCount_6) bud _ h) (cwV 1 hts gX0_find_X0_makeRoom rfl rfl rfl hdX0_makeRoom ⟨Nat.le_of_ble_eq_true rfl, Nat.le_of_ble_eq_true rfl⟩) hK hP hD hS hA hT [0, 6] [1, 2, 3, 4, 5, 7, 8, 9, 10, 11] rfl rfl rfl rfl (by decide) 0 0 rfl rfl rfl rfl hl.1 (Nat.le_of_ble_eq_true rfl) dX0_find_44 ⟨Nat.le_of_ble_eq_true rfl, (show 0 + bud ≤ bud by omega)⟩ (fun u9 H locs h hP hD hS => ?_)
    obtain ⟨q_t_fewest_9, n_t_fewest_10, t_fewest_11⟩ := u9
    have hP : va_P D vwCl ([(q_t, .inr (0, [.ref q_t_askedTimes, .int (1 : Int32), .ref q_t_places, .ref q_t_stock, .ref q_t_step, .ref q_t_gaps, .int t_placeCount_6, .int t_codes_7, .ref q_t_fewest_9, .ref q_t_left, .ref q_t_open, .ref q_t_ahead, .int t_openCount, .ref q_t_chained, .int t_changes])), (q_t_askedTimes, .inl (cI, 64, .inl p1)), (q_t_places, .inl (cI, 12, .inl t_places_3)), (q_t_stock, .inl (cI, 12, .inl t_stock_4)), (q_t_step, .inl (cI, 12, .inl t_step_5)), (q_t_gaps, .inl (cI, 156, .inl t_gaps_8)), (q_t_fewest_9, .inl (cB, n_t_fewest_10, .inl t_fewest_11)), (q_t_left, .inl (cI, 12, .inl t_left)), (q_t_open, .inl (cI, 12, .inl t_open)), (q_t_ahead, .inl (cI, 12, .inl t_ahead)), (q_t_chained, .inl (cI, 12, .inl t_chained)), (q_p1, .inl (cI, 64, .inl p1))]) H := hP.sub [10, 0, 1, 2, 3, 4, 11, 5, 6, 7, 8, 9] rfl
    have hD : va_D A ([(q_t, .inr (0, [.ref q_t_askedTimes, .int (1 : Int32), .ref q_t_places, .ref q_t_stock, .ref q_t_step, .ref q_t_gaps, .int t_placeCount_6, .int t_codes_7, .ref q_t_fewest_9, .ref q_t_left, .ref q_t_open, .ref q_t_ahead, .int t_openCount, .ref q_t_chained, .int t_changes])), (q_t_askedTimes, .inl (cI, 64, .inl p1)), (q_t_places, .inl (cI, 12, .inl t_places_3)), (q_t_stock, .inl (cI, 12, .inl t_stock_4)), (q_t_step, .inl (cI, 12, .inl t_step_5)), (q_t_gaps, .inl (cI, 156, .inl t_gaps_8)), (q_t_fewest_9, .inl (cB, n_t_fewest_10, .inl t_fewest_11)), (q_t_left, .inl (cI, 12, .inl t_left)), (q_t_open, .inl (cI, 12, .inl t_open)), (q_t_ahead, .inl (cI, 12, .inl t_ahead)), (q_t_chained, .inl (cI, 12, .inl t_chained)), (q_p1, .inl (cI, 64, .inl p1))]) := hD.sub [10, 0, 1, 2, 3, 4, 11, 5, 6, 7, 8, 9] rfl rfl
    try dsimp only at h
    refine lv_aload_n hx hb dX0_find_47 rfl (lv_at hl 0 rfl) ?_
    refine vc_VV (As := []) (rest := []) (wr := [(q_t_askedTimes, .inl (cI, 64, .inl p1)), (q_t_places, .inl (cI, 12, .inl t_places_3)), (q_t_chained, .inl (cI, 12, .inl t_chained)), (q_p1, .inl (cI, 64, .inl p1))]) ⟨hx, hb, hml, hown, hts⟩ (ctX0_weighStates l D cB cI cJ cZ cR tz q_t q_t_askedTimes q_t_places q_t_stock q_t_step q_t_gaps q_t_fewest_9 q_t_left q_t_open q_t_ahead q_t_chained (1 : Int32) t_placeCount_6 t_codes_7 t_openCount t_changes t_stock_4 t_step_5 t_gaps_8 n_t_fewest_10 t_fewest_11 t_left t_open t_ahead _ h) (cwV 0 hts gX0_find_X0_weighStates rfl rfl rfl hdX0_weighStates ⟨Nat.le_of_ble_eq_true rfl, Nat.le_of_ble_eq_true rfl⟩) hK hP hD hS hA hT [0, 3, 4, 5, 6, 7, 8, 9] [1, 2, 10, 11] rfl rfl rfl rfl (by decide) 0 0 rfl rfl rfl rfl hl.1 (Nat.le_of_ble_eq_true rfl) dX0_find_48 ⟨Nat.le_of_ble_eq_true rfl, (show 0 + bud + 0 ≤ bud by omega)⟩ (fun u9 H locs h hP hD hS => ?_)
    obtain ⟨t_fewest_12, t_left_13, t_open_14, t_ahead_15, t_openCount_16⟩ := u9
    have hP : va_P D vwCl ([(q_t, .inr (0, [.ref q_t_askedTimes, .int (1 : Int32), .ref q_t_places, .ref q_t_stock, .ref q_t_step, .ref q_t_gaps, .int t_placeCount_6, .int t_codes_7, .ref q_t_fewest_9, .ref q_t_left, .ref q_t_open, .ref q_t_ahead, .int t_openCount_16, .ref q_t_chained, .int t_changes])), (q_t_askedTimes, .inl (cI, 64, .inl p1)), (q_t_places, .inl (cI, 12, .inl t_places_3)), (q_t_stock, .inl (cI, 12, .inl t_stock_4)), (q_t_step, .inl (cI, 12, .inl t_step_5)), (q_t_gaps, .inl (cI, 156, .inl t_gaps_8)), (q_t_fewest_9, .inl (cB, n_t_fewest_10, .inl t_fewest_12)), (q_t_left, .inl (cI, 12, .inl t_left_13)), (q_t_open, .inl (cI, 12, .inl t_open_14)), (q_t_ahead, .inl (cI, 12, .inl t_ahead_15)), (q_t_chained, .inl (cI, 12, .inl t_chained)), (q_p1, .inl (cI, 64, .inl p1))]) H := hP.sub [4, 0, 1, 5, 6, 7, 8, 9, 10, 11, 2, 3] rfl
    have hD : va_D A ([(q_t, .inr (0, [.ref q_t_askedTimes, .int (1 : Int32), .ref q_t_places, .ref q_t_stock, .ref q_t_step, .ref q_t_gaps, .int t_placeCount_6, .int t_codes_7, .ref q_t_fewest_9, .ref q_t_left, .ref q_t_open, .ref q_t_ahead, .int t_openCount_16, .ref q_t_chained, .int t_changes])), (q_t_askedTimes, .inl (cI, 64, .inl p1)), (q_t_places, .inl (cI, 12, .inl t_places_3)), (q_t_stock, .inl (cI, 12, .inl t_stock_4)), (q_t_step, .inl (cI, 12, .inl t_step_5)), (q_t_gaps, .inl (cI, 156, .inl t_gaps_8)), (q_t_fewest_9, .inl (cB, n_t_fewest_10, .inl t_fewest_12)), (q_t_left, .inl (cI, 12, .inl t_left_13)), (q_t_open, .inl (cI, 12, .inl t_open_14)), (q_t_ahead, .inl (cI, 12, .inl t_ahead_15)), (q_t_chained, .inl (cI, 12, .inl t_chained)), (q_p1, .inl (cI, 64, .inl p1))]) := hD.sub [4, 0, 1, 5, 6, 7, 8, 9, 10, 11, 2, 3] rfl rfl
    try dsimp only at h
    refine lv_aload_n hx hb dX0_find_51 rfl (lv_at hl 0 rfl) ?_
    refine vc_VV (As := []) (rest := []) (wr := [(q_t_askedTimes, .inl (cI, 64, .inl p1)), (q_p1, .inl (cI, 64, .inl p1))]) ⟨hx, hb, hml, hown, hts⟩ (ctX0_readChain l D cB cI cJ cZ cR tz q_t q_t_askedTimes q_t_places q_t_stock q_t_step q_t_gaps q_t_fewest_9 q_t_left q_t_open q_t_ahead q_t_chained (1 : Int32) t_placeCount_6 t_codes_7 t_openCount_16 t_changes t_places_3 t_stock_4 t_step_5 t_gaps_8 n_t_fewest_10 t_fewest_12 t_left_13 t_open_14 t_ahead_15 t_chained _ h) (cwV 0 hts gX0_find_X0_readChain rfl rfl rfl hdX0_readChain ⟨Nat.le_of_ble_eq_true rfl, Nat.le_of_ble_eq_true rfl⟩) hK hP hD hS hA hT [0, 2, 3, 4, 5, 6, 7, 8, 9, 10] [1, 11] rfl rfl rfl rfl (by decide) 0 0 rfl rfl rfl rfl hl.1 (Nat.le_of_ble_eq_true rfl) dX0_find_52 ⟨Nat.le_of_ble_eq_true rfl, (show 0 + bud + 0 ≤ bud by omega)⟩ (fun u9 H locs h hP hD hS => ?_)
    obtain ⟨t_left_17, t_open_18, t_ahead_19, t_openCount_20, t_chained_21, t_changes_22⟩ := u9
    have hP : va_P D vwCl ([(q_t, .inr (0, [.ref q_t_askedTimes, .int (1 : Int32), .ref q_t_places, .ref q_t_stock, .ref q_t_step, .ref q_t_gaps, .int t_placeCount_6, .int t_codes_7, .ref q_t_fewest_9, .ref q_t_left, .ref q_t_open, .ref q_t_ahead, .int t_openCount_20, .ref q_t_chained, .int t_changes_22])), (q_t_askedTimes, .inl (cI, 64, .inl p1)), (q_t_places, .inl (cI, 12, .inl t_places_3)), (q_t_stock, .inl (cI, 12, .inl t_stock_4)), (q_t_step, .inl (cI, 12, .inl t_step_5)), (q_t_gaps, .inl (cI, 156, .inl t_gaps_8)), (q_t_fewest_9, .inl (cB, n_t_fewest_10, .inl t_fewest_12)), (q_t_left, .inl (cI, 12, .inl t_left_17)), (q_t_open, .inl (cI, 12, .inl t_open_18)), (q_t_ahead, .inl (cI, 12, .inl t_ahead_19)), (q_t_chained, .inl (cI, 12, .inl t_chained_21)), (q_p1, .inl (cI, 64, .inl p1))]) H := hP.sub [2, 0, 3, 4, 5, 6, 7, 8, 9, 10, 11, 1] rfl
    have hD : va_D A ([(q_t, .inr (0, [.ref q_t_askedTimes, .int (1 : Int32), .ref q_t_places, .ref q_t_stock, .ref q_t_step, .ref q_t_gaps, .int t_placeCount_6, .int t_codes_7, .ref q_t_fewest_9, .ref q_t_left, .ref q_t_open, .ref q_t_ahead, .int t_openCount_20, .ref q_t_chained, .int t_changes_22])), (q_t_askedTimes, .inl (cI, 64, .inl p1)), (q_t_places, .inl (cI, 12, .inl t_places_3)), (q_t_stock, .inl (cI, 12, .inl t_stock_4)), (q_t_step, .inl (cI, 12, .inl t_step_5)), (q_t_gaps, .inl (cI, 156, .inl t_gaps_8)), (q_t_fewest_9, .inl (cB, n_t_fewest_10, .inl t_fewest_12)), (q_t_left, .inl (cI, 12, .inl t_left_17)), (q_t_open, .inl (cI, 12, .inl t_open_18)), (q_t_ahead, .inl (cI, 12, .inl t_ahead_19)), (q_t_chained, .inl (cI, 12, .inl t_chained_21)), (q_p1, .inl (cI, 64, .inl p1))]) := hD.sub [2, 0, 3, 4, 5, 6, 7, 8, 9, 10, 11, 1] rfl rfl
    try dsimp only at h
    subst hQ
    refine W.widen (k := 1) (n := bud) (by omega) (by omega) ?_
    exact vr_V (p1, (1 : Int32), t_places_3, t_stock_4, t_step_5, t_gaps_8, t_placeCount_6, t_codes_7, q_t_fewest_9, n_t_fewest_10, t_fewest_12, t_left_17, t_open_18, t_ahead_19, t_openCount_20, t_chained_21, t_changes_22) hx hb hr hlk hP hD hS [0, 1, 2, 3, 4, 5, 6, 7, 8, 9, 10, 11] rfl rfl h dX0_find_55
  · have h := hn_2 hc
    subst hQ
    refine W.widen (k := 1) (n := bud) (by omega) (by omega) ?_
    exact vr_V (t_askedTimes, t_asked, t_places, t_stock, t_step, t_gaps, t_placeCount, t_codes, q_t_fewest, n_t_fewest, t_fewest, t_left, t_open, t_ahead, t_openCount, t_chained, t_changes) hx hb hr hlk hP hD hS [0, 1, 2, 3, 4, 5, 6, 7, 8, 9, 10, 11] rfl rfl h dX0_find_8
