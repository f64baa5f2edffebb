theorem mX1_copyFrom_1 : Cond.fieldLink RX1 30 "TrialDesk$Desk" "factorCount" "I" ∈ wsX1_copyFrom := List.mem_of_getElem? (i := 1) (by decide +kernel)
theorem mX1_copyFrom_2 : Cond.fieldLink RX1 34 "TrialDesk$Desk" "termCount" "I" ∈ wsX1_copyFrom := List.mem_of_getElem? (i := 2) (by decide +kernel)
theorem mX1_copyFrom_3 : Cond.fieldLink RX1 37 "TrialDesk$Desk" "trialCount" "I" ∈ wsX1_copyFrom := List.mem_of_getElem? (i := 3) (by decide +kernel)
theorem mX1_copyFrom_4 : Cond.fieldLink RX1 40 "TrialDesk$Desk" "seenCount" "I" ∈ wsX1_copyFrom := List.mem_of_getElem? (i := 4) (by decide +kernel)
theorem mX1_copyFrom_5 : Cond.fieldLink RX1 43 "TrialDesk$Desk" "seenSquares" "J" ∈ wsX1_copyFrom := List.mem_of_getElem? (i := 5) (by decide +kernel)
theorem mX1_copyFrom_6 : Cond.fieldLink RX1 9 "TrialDesk$Desk" "terms" "[I" ∈ wsX1_copyFrom := List.mem_of_getElem? (i := 6) (by decide +kernel)
theorem mX1_copyFrom_7 : Cond.methodLink RX1 47 arraycopyName ∈ wsX1_copyFrom := List.mem_of_getElem? (i := 7) (by decide +kernel)
theorem mX1_copyFrom_8 : Cond.native arraycopyName ∈ wsX1_copyFrom := List.mem_of_getElem? (i := 8) (by decide +kernel)
theorem mX1_copyFrom_9 : Cond.static arraycopyName ∈ wsX1_copyFrom := List.mem_of_getElem? (i := 9) (by decide +kernel)
theorem mX1_copyFrom_10 : Cond.initialized "java/lang/System" ∈ wsX1_copyFrom := List.mem_of_getElem? (i := 10) (by decide +kernel)
theorem mX1_copyFrom_11 : Cond.fieldLink RX1 15 "TrialDesk$Desk" "times" "[I" ∈ wsX1_copyFrom := List.mem_of_getElem? (i := 11) (by decide +kernel)
theorem mX1_copyFrom_12 : Cond.fieldLink RX1 18 "TrialDesk$Desk" "words" "[I" ∈ wsX1_copyFrom := List.mem_of_getElem? (i := 12) (by decide +kernel)
theorem mX1_copyFrom_13 : Cond.fieldLink RX1 21 "TrialDesk$Desk" "wordMarks" "[I" ∈ wsX1_copyFrom := List.mem_of_getElem? (i := 13) (by decide +kernel)
theorem mX1_copyFrom_14 : Cond.fieldLink RX1 24 "TrialDesk$Desk" "seenTimes" "[I" ∈ wsX1_copyFrom := List.mem_of_getElem? (i := 14) (by decide +kernel)
theorem mX1_copyFrom_15 : Cond.fieldLink RX1 27 "TrialDesk$Desk" "seenSums" "[I" ∈ wsX1_copyFrom := List.mem_of_getElem? (i := 15) (by decide +kernel)
abbrev rmX1_copyFrom : Room := { frames := 1, cells := 0, slots := 0, locals := 70 }
set_option maxHeartbeats 4000000 in
set_option maxRecDepth 100000 in
theorem ctX1_copyFrom (l : Launch) (D : va_G) (cB cI cJ cZ cR : ClassId) (tz : Nat) (q_t : Nat) (q_t_terms : Nat) (q_t_times : Nat) (q_t_words : Nat) (q_t_wordMarks : Nat) (q_t_seenTimes : Nat) (q_t_seenSums : Nat) (q_p1 : Nat) (q_p1_terms : Nat) (q_p1_times : Nat) (q_p1_words : Nat) (q_p1_wordMarks : Nat) (q_p1_seenTimes : Nat) (q_p1_seenSums : Nat) (t_factorCount : Int32) (t_termCount : Int32) (t_trialCount : Int32) (t_seenCount : Int32) (t_seenSquares : Int64) (t_terms : (Nat → Int32)) (t_times : (Nat → Int32)) (t_words : (Nat → Int32)) (t_wordMarks : (Nat → Int32)) (t_seenTimes : (Nat → Int32)) (t_seenSums : (Nat → Int32)) (p1_factorCount : Int32) (p1_termCount : Int32) (p1_trialCount : Int32) (p1_seenCount : Int32) (p1_seenSquares : Int64) (p1_terms : (Nat → Int32)) (p1_times : (Nat → Int32)) (p1_words : (Nat → Int32)) (p1_wordMarks : (Nat → Int32)) (p1_seenTimes : (Nat → Int32)) (p1_seenSums : (Nat → Int32)) (k : Int32 → Int32 → Int32 → Int32 → Int64 → (Nat → Int32) → (Nat → Int32) → (Nat → Int32) → (Nat → Int32) → (Nat → Int32) → (Nat → Int32) → Prop) (h : wpX1_copyFrom t_factorCount t_termCount t_trialCount t_seenCount t_seenSquares t_terms t_times t_words t_wordMarks t_seenTimes t_seenSums p1_factorCount p1_termCount p1_trialCount p1_seenCount p1_seenSquares p1_terms p1_times p1_words p1_wordMarks p1_seenTimes p1_seenSums k) : MV l yX1_copyFrom wsX1_copyFrom rmX1_copyFrom D (vTy cB cI cJ cZ cR) tz [.ref q_t, .ref q_p1] ([(q_t, .inr (1, [.int t_factorCount, .int t_termCount, .int t_trialCount, .int t_seenCount, .long t_seenSquares, .ref q_t_terms, .ref q_t_times, .ref q_t_words, .ref q_t_wordMarks, .ref q_t_seenTimes, .ref q_t_seenSums])), (q_t_terms, .inl (cI, 5, .inl t_terms)), (q_t_times, .inl (cI, 64, .inl t_times)), (q_t_words, .inl (cI, 4, .inl t_words)), (q_t_wordMarks, .inl (cI, 4, .inl t_wordMarks)), (q_t_seenTimes, .inl (cI, 64, .inl t_seenTimes)), (q_t_seenSums, .inl (cI, 64, .inl t_seenSums)), (q_p1, .inr (1, [.int p1_factorCount, .int p1_termCount, .int p1_trialCount, .int p1_seenCount, .long p1_seenSquares, .ref q_p1_terms, .ref q_p1_times, .ref q_p1_words, .ref q_p1_wordMarks, .ref q_p1_seenTimes, .ref q_p1_seenSums])), (q_p1_terms, .inl (cI, 5, .inl p1_terms)), (q_p1_times, .inl (cI, 64, .inl p1_times)), (q_p1_words, .inl (cI, 4, .inl p1_words)), (q_p1_wordMarks, .inl (cI, 4, .inl p1_wordMarks)), (q_p1_seenTimes, .inl (cI, 64, .inl p1_seenTimes)), (q_p1_seenSums, .inl (cI, 64, .inl p1_seenSums))]) (fun (u : Int32 × Int32 × Int32 × Int32 × Int64 × (Nat → Int32) × (Nat → Int32) × (Nat → Int32) × (Nat → Int32) × (Nat → Int32) × (Nat → Int32)) => k u.1 u.2.1 u.2.2.1 u.2.2.2.1 u.2.2.2.2.1 u.2.2.2.2.2.1 u.2.2.2.2.2.2.1 u.2.2.2.2.2.2.2.1 u.2.2.2.2.2.2.2.2.1 u.2.2.2.2.2.2.2.2.2.1 u.2.2.2.2.2.2.2.2.2.2) (fun (u : Int32 × Int32 × Int32 × Int32 × Int64 × (Nat → Int32) × (Nat → Int32) × (Nat → Int32) × (Nat → Int32) × (Nat → Int32) × (Nat → Int32)) => [(q_t, .inr (1, [.int (u.1), .int (u.2.1), .int (u.2.2.1), .int (u.2.2.2.1), .long (u.2.2.2.2.1), .ref q_t_terms, .ref q_t_times, .ref q_t_words, .ref q_t_wordMarks, .ref q_t_seenTimes, .ref q_t_seenSums])), (q_t_terms, .inl (cI, 5, .inl (u.2.2.2.2.2.1))), (q_t_times, .inl (cI, 64, .inl (u.2.2.2.2.2.2.1))), (q_t_words, .inl (cI, 4, .inl (u.2.2.2.2.2.2.2.1))), (q_t_wordMarks, .inl (cI, 4, .inl (u.2.2.2.2.2.2.2.2.1))), (q_t_seenTimes, .inl (cI, 64, .inl (u.2.2.2.2.2.2.2.2.2.1))), (q_t_seenSums, .inl (cI, 64, .inl (u.2.2.2.2.2.2.2.2.2.2))), (q_p1, .inr (1, [.int p1_factorCount, .int p1_termCount, .int p1_trialCount, .int p1_seenCount, .long p1_seenSquares, .ref q_p1_terms, .ref q_p1_times, .ref q_p1_words, .ref q_p1_wordMarks, .ref q_p1_seenTimes, .ref q_p1_seenSums])), (q_p1_terms, .inl (cI, 5, .inl p1_terms)), (q_p1_times, .inl (cI, 64, .inl p1_times)), (q_p1_words, .inl (cI, 4, .inl p1_words)), (q_p1_wordMarks, .inl (cI, 4, .inl p1_wordMarks)), (q_p1_seenTimes, .inl (cI, 64, .inl p1_seenTimes)), (q_p1_seenSums, .inl (cI, 64, .inl p1_seenSums))]) 0 0 := by
  refine MV.of (cc := cX1_copyFrom) (maxL := 2) (ret := none) (by decide) rfl (Nat.le_of_ble_eq_true rfl) ?_
  intro p e s m args below meth c A ls Q hQ E
  obtain ⟨hx, hb, hml, hr, hts, hown, hlk, hin, hP, hK, hD, hS, hA, hT, hl⟩ := E
  have hown : s.vm.findClass RX1 = some m.cls := hown
  have hl : lv_has ls 2 [(0, .ref q_t), (1, .ref q_p1)] := hl
  have iX1 : ∀ w ∈ wsX10, w ∈ wsX1_copyFrom := fun _ h => List.mem_cons_of_mem _ (List.mem_append_right _ h)
  unfold wpX1_copyFrom at h
  refine lv_aload_n hx hb dX1_copyFrom_0 rfl (lv_at hl 0 rfl) ?_
  refine lv_aload_n hx hb dX1_copyFrom_1 rfl (lv_at hl 1 rfl) ?_
  refine va_get (v := .int p1_factorCount) hx hb hts iX1 hown hK hP 7 rfl rfl 0 (by decide) (hts _ mX1_copyFrom_1) (fun _ h9 => h9) rfl dX1_copyFrom_2 ?_
  refine va_put (v := .int p1_factorCount) (ty := .int) hx hb hts iX1 tyX1 tyX1_ok nmX1 hown hK hP hD hS 0 rfl rfl 0 (by decide) (hts _ mX1_copyFrom_1) (fun _ h9 => h9) rfl (tyX1_ok 0 (by decide)) rfl rfl (Nat.le_of_ble_eq_true rfl) dX1_copyFrom_5 (fun H locs hP hD hS => ?_)
  have hP : va_P D vwCl ([(q_t, .inr (1, [.int p1_factorCount, .int t_termCount, .int t_trialCount, .int t_seenCount, .long t_seenSquares, .ref q_t_terms, .ref q_t_times, .ref q_t_words, .ref q_t_wordMarks, .ref q_t_seenTimes, .ref q_t_seenSums])), (q_t_terms, .inl (cI, 5, .inl t_terms)), (q_t_times, .inl (cI, 64, .inl t_times)), (q_t_words, .inl (cI, 4, .inl t_words)), (q_t_wordMarks, .inl (cI, 4, .inl t_wordMarks)), (q_t_seenTimes, .inl (cI, 64, .inl t_seenTimes)), (q_t_seenSums, .inl (cI, 64, .inl t_seenSums)), (q_p1, .inr (1, [.int p1_factorCount, .int p1_termCount, .int p1_trialCount, .int p1_seenCount, .long p1_seenSquares, .ref q_p1_terms, .ref q_p1_times, .ref q_p1_words, .ref q_p1_wordMarks, .ref q_p1_seenTimes, .ref q_p1_seenSums])), (q_p1_terms, .inl (cI, 5, .inl p1_terms)), (q_p1_times, .inl (cI, 64, .inl p1_times)), (q_p1_words, .inl (cI, 4, .inl p1_words)), (q_p1_wordMarks, .inl (cI, 4, .inl p1_wordMarks)), (q_p1_seenTimes, .inl (cI, 64, .inl p1_seenTimes)), (q_p1_seenSums, .inl (cI, 64, .inl p1_seenSums))]) H := hP
  have hD : va_D A ([(q_t, .inr (1, [.int p1_factorCount, .int t_termCount, .int t_trialCount, .int t_seenCount, .long t_seenSquares, .ref q_t_terms, .ref q_t_times, .ref q_t_words, .ref q_t_wordMarks, .ref q_t_seenTimes, .ref q_t_seenSums])), (q_t_terms, .inl (cI, 5, .inl t_terms)), (q_t_times, .inl (cI, 64, .inl t_times)), (q_t_words, .inl (cI, 4, .inl t_words)), (q_t_wordMarks, .inl (cI, 4, .inl t_wordMarks)), (q_t_seenTimes, .inl (cI, 64, .inl t_seenTimes)), (q_t_seenSums, .inl (cI, 64, .inl t_seenSums)), (q_p1, .inr (1, [.int p1_factorCount, .int p1_termCount, .int p1_trialCount, .int p1_seenCount, .long p1_seenSquares, .ref q_p1_terms, .ref q_p1_times, .ref q_p1_words, .ref q_p1_wordMarks, .ref q_p1_seenTimes, .ref q_p1_seenSums])), (q_p1_terms, .inl (cI, 5, .inl p1_terms)), (q_p1_times, .inl (cI, 64, .inl p1_times)), (q_p1_words, .inl (cI, 4, .inl p1_words)), (q_p1_wordMarks, .inl (cI, 4, .inl p1_wordMarks)), (q_p1_seenTimes, .inl (cI, 64, .inl p1_seenTimes)), (q_p1_seenSums, .inl (cI, 64, .inl p1_seenSums))]) := hD
  refine lv_aload_n hx hb dX1_copyFrom_8 rfl (lv_at hl 0 rfl) ?_
  refine lv_aload_n hx hb dX1_copyFrom_9 rfl (lv_at hl 1 rfl) ?_
  refine va_get (v := .int p1_termCount) hx hb hts iX1 hown hK hP 7 rfl rfl 1 (by decide) (hts _ mX1_copyFrom_2) (fun _ h9 => h9) rfl dX1_copyFrom_10 ?_
  refine va_put (v := .int p1_termCount) (ty := .int) hx hb hts iX1 tyX1 tyX1_ok nmX1 hown hK hP hD hS 0 rfl rfl 1 (by decide) (hts _ mX1_copyFrom_2) (fun _ h9 => h9) rfl (tyX1_ok 1 (by decide)) rfl rfl (Nat.le_of_ble_eq_true rfl) dX1_copyFrom_13 (fun H locs hP hD hS => ?_)
  have hP : va_P D vwCl ([(q_t, .inr (1, [.int p1_factorCount, .int p1_termCount, .int t_trialCount, .int t_seenCount, .long t_seenSquares, .ref q_t_terms, .ref q_t_times, .ref q_t_words, .ref q_t_wordMarks, .ref q_t_seenTimes, .ref q_t_seenSums])), (q_t_terms, .inl (cI, 5, .inl t_terms)), (q_t_times, .inl (cI, 64, .inl t_times)), (q_t_words, .inl (cI, 4, .inl t_words)), (q_t_wordMarks, .inl (cI, 4, .inl t_wordMarks)), (q_t_seenTimes, .inl (cI, 64, .inl t_seenTimes)), (q_t_seenSums, .inl (cI, 64, .inl t_seenSums)), (q_p1, .inr (1, [.int p1_factorCount, .int p1_termCount, .int p1_trialCount, .int p1_seenCount, .long p1_seenSquares, .ref q_p1_terms, .ref q_p1_times, .ref q_p1_words, .ref q_p1_wordMarks, .ref q_p1_seenTimes, .ref q_p1_seenSums])), (q_p1_terms, .inl (cI, 5, .inl p1_terms)), (q_p1_times, .inl (cI, 64, .inl p1_times)), (q_p1_words, .inl (cI, 4, .inl p1_words)), (q_p1_wordMarks, .inl (cI, 4, .inl p1_wordMarks)), (q_p1_seenTimes, .inl (cI, 64, .inl p1_seenTimes)), (q_p1_seenSums, .inl (cI, 64, .inl p1_seenSums))]) H := hP
  have hD : va_D A ([(q_t, .inr (1, [.int p1_factorCount, .int p1_termCount, .int t_trialCount, .int t_seenCount, .long t_seenSquares, .ref q_t_terms, .ref q_t_times, .ref q_t_words, .ref q_t_wordMarks, .ref q_t_seenTimes, .ref q_t_seenSums])), (q_t_terms, .inl (cI, 5, .inl t_terms)), (q_t_times, .inl (cI, 64, .inl t_times)), (q_t_words, .inl (cI, 4, .inl t_words)), (q_t_wordMarks, .inl (cI, 4, .inl t_wordMarks)), (q_t_seenTimes, .inl (cI, 64, .inl t_seenTimes)), (q_t_seenSums, .inl (cI, 64, .inl t_seenSums)), (q_p1, .inr (1, [.int p1_factorCount, .int p1_termCount, .int p1_trialCount, .int p1_seenCount, .long p1_seenSquares, .ref q_p1_terms, .ref q_p1_times, .ref q_p1_words, .ref q_p1_wordMarks, .ref q_p1_seenTimes, .ref q_p1_seenSums])), (q_p1_terms, .inl (cI, 5, .inl p1_terms)), (q_p1_times, .inl (cI, 64, .inl p1_times)), (q_p1_words, .inl (cI, 4, .inl p1_words)), (q_p1_wordMarks, .inl (cI, 4, .inl p1_wordMarks)), (q_p1_seenTimes, .inl (cI, 64, .inl p1_seenTimes)), (q_p1_seenSums, .inl (cI, 64, .inl p1_seenSums))]) := hD
  refine lv_aload_n hx hb dX1_copyFrom_16 rfl (lv_at hl 0 rfl) ?_
  refine lv_aload_n hx hb dX1_copyFrom_17 rfl (lv_at hl 1 rfl) ?_
  refine va_get (v := .int p1_trialCount) hx hb hts iX1 hown hK hP 7 rfl rfl 2 (by decide) (hts _ mX1_copyFrom_3) (fun _ h9 => h9) rfl dX1_copyFrom_18 ?_
  refine va_put (v := .int p1_trialCount) (ty := .int) hx hb hts iX1 tyX1 tyX1_ok nmX1 hown hK hP hD hS 0 rfl rfl 2 (by decide) (hts _ mX1_copyFrom_3) (fun _ h9 => h9) rfl (tyX1_ok 2 (by decide)) rfl rfl (Nat.le_of_ble_eq_true rfl) dX1_copyFrom_21 (fun H locs hP hD hS => ?_)
  have hP : va_P D vwCl ([(q_t, .inr (1, [.int p1_factorCount, .int p1_termCount, .int p1_trialCount, .int t_seenCount, .long t_seenSquares, .ref q_t_terms, .ref q_t_times, .ref q_t_words, .ref q_t_wordMarks, .ref q_t_seenTimes, .ref q_t_seenSums])), (q_t_terms, .inl (cI, 5, .inl t_terms)), (q_t_times, .inl (cI, 64, .inl t_times)), (q_t_words, .inl (cI, 4, .inl t_words)), (q_t_wordMarks, .inl (cI, 4, .inl t_wordMarks)), (q_t_seenTimes, .inl (cI, 64, .inl t_seenTimes)), (q_t_seenSums, .inl (cI, 64, .inl t_seenSums)), (q_p1, .inr (1, [.int p1_factorCount, .int p1_termCount, .int p1_trialCount, .int p1_seenCount, .long p1_seenSquares, .ref q_p1_terms, .ref q_p1_times, .ref q_p1_words, .ref q_p1_wordMarks, .ref q_p1_seenTimes, .ref q_p1_seenSums])), (q_p1_terms, .inl (cI, 5, .inl p1_terms)), (q_p1_times, .inl (cI, 64, .inl p1_times)), (q_p1_words, .inl (cI, 4, .inl p1_words)), (q_p1_wordMarks, .inl (cI, 4, .inl p1_wordMarks)), (q_p1_seenTimes, .inl (cI, 64, .inl p1_seenTimes)), (q_p1_seenSums, .inl (cI, 64, .inl p1_seenSums))]) H := hP
  have hD : va_D A ([(q_t, .inr (1, [.int p1_factorCount, .int p1_termCount, .int p1_trialCount, .int t_seenCount, .long t_seenSquares, .ref q_t_terms, .ref q_t_times, .ref q_t_words, .ref q_t_wordMarks, .ref q_t_seenTimes, .ref q_t_seenSums])), (q_t_terms, .inl (cI, 5, .inl t_terms)), (q_t_times, .inl (cI, 64, .inl t_times)), (q_t_words, .inl (cI, 4, .inl t_words)), (q_t_wordMarks, .inl (cI, 4, .inl t_wordMarks)), (q_t_seenTimes, .inl (cI, 64, .inl t_seenTimes)), (q_t_seenSums, .inl (cI, 64, .inl t_seenSums)), (q_p1, .inr (1, [.int p1_factorCount, .int p1_termCount, .int p1_trialCount, .int p1_seenCount, .long p1_seenSquares, .ref q_p1_terms, .ref q_p1_times, .ref q_p1_words, .ref q_p1_wordMarks, .ref q_p1_seenTimes, .ref q_p1_seenSums])), (q_p1_terms, .inl (cI, 5, .inl p1_terms)), (q_p1_times, .inl (cI, 64, .inl p1_times)), (q_p1_words, .inl (cI, 4, .inl p1_words)), (q_p1_wordMarks, .inl (cI, 4, .inl p1_wordMarks)), (q_p1_seenTimes, .inl (cI, 64, .inl p1_seenTimes)), (q_p1_seenSums, .inl (cI, 64, .inl p1_seenSums))]) := hD
  refine lv_aload_n hx hb dX1_copyFrom_24 rfl (lv_at hl 0 rfl) ?_
  refine lv_aload_n hx hb dX1_copyFrom_25 rfl (lv_at hl 1 rfl) ?_
  refine va_get (v := .int p1_seenCount) hx hb hts iX1 hown hK hP 7 rfl rfl 3 (by decide) (hts _ mX1_copyFrom_4) (fun _ h9 => h9) rfl dX1_copyFrom_26 ?_
  refine va_put (v := .int p1_seenCount) (ty := .int) hx hb hts iX1 tyX1 tyX1_ok nmX1 hown hK hP hD hS 0 rfl rfl 3 (by decide) (hts _ mX1_copyFrom_4) (fun _ h9 => h9) rfl (tyX1_ok 3 (by decide)) rfl rfl (Nat.le_of_ble_eq_true rfl) dX1_copyFrom_29 (fun H locs hP hD hS => ?_)
  have hP : va_P D vwCl ([(q_t, .inr (1, [.int p1_factorCount, .int p1_termCount, .int p1_trialCount, .int p1_seenCount, .long t_seenSquares, .ref q_t_terms, .ref q_t_times, .ref q_t_words, .ref q_t_wordMarks, .ref q_t_seenTimes, .ref q_t_seenSums])), (q_t_terms, .inl (cI, 5, .inl t_terms)), (q_t_times, .inl (cI, 64, .inl t_times)), (q_t_words, .inl (cI, 4, .inl t_words)), (q_t_wordMarks, .inl (cI, 4, .inl t_wordMarks)), (q_t_seenTimes, .inl (cI, 64, .inl t_seenTimes)), (q_t_seenSums, .inl (cI, 64, .inl t_seenSums)), (q_p1, .inr (1, [.int p1_factorCount, .int p1_termCount, .int p1_trialCount, .int p1_seenCount, .long p1_seenSquares, .ref q_p1_terms, .ref q_p1_times, .ref q_p1_words, .ref q_p1_wordMarks, .ref q_p1_seenTimes, .ref q_p1_seenSums])), (q_p1_terms, .inl (cI, 5, .inl p1_terms)), (q_p1_times, .inl (cI, 64, .inl p1_times)), (q_p1_words, .inl (cI, 4, .inl p1_words)), (q_p1_wordMarks, .inl (cI, 4, .inl p1_wordMarks)), (q_p1_seenTimes, .inl (cI, 64, .inl p1_seenTimes)), (q_p1_seenSums, .inl (cI, 64, .inl p1_seenSums))]) H := hP
  have hD : va_D A ([(q_t, .inr (1, [.int p1_factorCount, .int p1_termCount, .int p1_trialCount, .int p1_seenCount, .long t_seenSquares, .ref q_t_terms, .ref q_t_times, .ref q_t_words, .ref q_t_wordMarks, .ref q_t_seenTimes, .ref q_t_seenSums])), (q_t_terms, .inl (cI, 5, .inl t_terms)), (q_t_times, .inl (cI, 64, .inl t_times)), (q_t_words, .inl (cI, 4, .inl t_words)), (q_t_wordMarks, .inl (cI, 4, .inl t_wordMarks)), (q_t_seenTimes, .inl (cI, 64, .inl t_seenTimes)), (q_t_seenSums, .inl (cI, 64, .inl t_seenSums)), (q_p1, .inr (1, [.int p1_factorCount, .int p1_termCount, .int p1_trialCount, .int p1_seenCount, .long p1_seenSquares, .ref q_p1_terms, .ref q_p1_times, .ref q_p1_words, .ref q_p1_wordMarks, .ref q_p1_seenTimes, .ref q_p1_seenSums])), (q_p1_terms, .inl (cI, 5, .inl p1_terms)), (q_p1_times, .inl (cI, 64, .inl p1_times)), (q_p1_words, .inl (cI, 4, .inl p1_words)), (q_p1_wordMarks, .inl (cI, 4, .inl p1_wordMarks)), (q_p1_seenTimes, .inl (cI, 64, .inl p1_seenTimes)), (q_p1_seenSums, .inl (cI, 64, .inl p1_seenSums))]) := hD
  refine lv_aload_n hx hb dX1_copyFrom_32 rfl (lv_at hl 0 rfl) ?_
  refine lv_aload_n hx hb dX1_copyFrom_33 rfl (lv_at hl 1 rfl) ?_
  refine va_get (v := .long p1_seenSquares) hx hb hts iX1 hown hK hP 7 rfl rfl 4 (by decide) (hts _ mX1_copyFrom_5) (fun _ h9 => h9) rfl dX1_copyFrom_34 ?_
  refine va_put (v := .long p1_seenSquares) (ty := .long) hx hb hts iX1 tyX1 tyX1_ok nmX1 hown hK hP hD hS 0 rfl rfl 4 (by decide) (hts _ mX1_copyFrom_5) (fun _ h9 => h9) rfl (tyX1_ok 4 (by decide)) rfl rfl (Nat.le_of_ble_eq_true rfl) dX1_copyFrom_37 (fun H locs hP hD hS => ?_)
  have hP : va_P D vwCl ([(q_t, .inr (1, [.int p1_factorCount, .int p1_termCount, .int p1_trialCount, .int p1_seenCount, .long p1_seenSquares, .ref q_t_terms, .ref q_t_times, .ref q_t_words, .ref q_t_wordMarks, .ref q_t_seenTimes, .ref q_t_seenSums])), (q_t_terms, .inl (cI, 5, .inl t_terms)), (q_t_times, .inl (cI, 64, .inl t_times)), (q_t_words, .inl (cI, 4, .inl t_words)), (q_t_wordMarks, .inl (cI, 4, .inl t_wordMarks)), (q_t_seenTimes, .inl (cI, 64, .inl t_seenTimes)), (q_t_seenSums, .inl (cI, 64, .inl t_seenSums)), (q_p1, .inr (1, [.int p1_factorCount, .int p1_termCount, .int p1_trialCount, .int p1_seenCount, .long p1_seenSquares, .ref q_p1_terms, .ref q_p1_times, .ref q_p1_words, .ref q_p1_wordMarks, .ref q_p1_seenTimes, .ref q_p1_seenSums])), (q_p1_terms, .inl (cI, 5, .inl p1_terms)), (q_p1_times, .inl (cI, 64, .inl p1_times)), (q_p1_words, .inl (cI, 4, .inl p1_words)), (q_p1_wordMarks, .inl (cI, 4, .inl p1_wordMarks)), (q_p1_seenTimes, .inl (cI, 64, .inl p1_seenTimes)), (q_p1_seenSums, .inl (cI, 64, .inl p1_seenSums))]) H := hP
  have hD : va_D A ([(q_t, .inr (1, [.int p1_factorCount, .int p1_termCount, .int p1_trialCount, .int p1_seenCount, .long p1_seenSquares, .ref q_t_terms, .ref q_t_times, .ref q_t_words, .ref q_t_wordMarks, .ref q_t_seenTimes, .ref q_t_seenSums])), (q_t_terms, .inl (cI, 5, .inl t_terms)), (q_t_times, .inl (cI, 64, .inl t_times)), (q_t_words, .inl (cI, 4, .inl t_words)), (q_t_wordMarks, .inl (cI, 4, .inl t_wordMarks)), (q_t_seenTimes, .inl (cI, 64, .inl t_seenTimes)), (q_t_seenSums, .inl (cI, 64, .inl t_seenSums)), (q_p1, .inr (1, [.int p1_factorCount, .int p1_termCount, .int p1_trialCount, .int p1_seenCount, .long p1_seenSquares, .ref q_p1_terms, .ref q_p1_times, .ref q_p1_words, .ref q_p1_wordMarks, .ref q_p1_seenTimes, .ref q_p1_seenSums])), (q_p1_terms, .inl (cI, 5, .inl p1_terms)), (q_p1_times, .inl (cI, 64, .inl p1_times)), (q_p1_words, .inl (cI, 4, .inl p1_words)), (q_p1_wordMarks, .inl (cI, 4, .inl p1_wordMarks)), (q_p1_seenTimes, .inl (cI, 64, .inl p1_seenTimes)), (q_p1_seenSums, .inl (cI, 64, .inl p1_seenSums))]) := hD
  refine lv_aload_n hx hb dX1_copyFrom_40 rfl (lv_at hl 1 rfl) ?_
  refine va_get (v := .ref q_p1_terms) hx hb hts iX1 hown hK hP 7 rfl rfl 5 (by decide) (hts _ mX1_copyFrom_6) (fun _ h9 => h9) rfl dX1_copyFrom_41 ?_
  refine lv_iconst (v := 0) hx hb dX1_copyFrom_44 (by decide) ?_
  refine lv_aload_n hx hb dX1_copyFrom_45 rfl (lv_at hl 0 rfl) ?_
  refine va_get (v := .ref q_t_terms) hx hb hts iX1 hown hK hP 0 rfl rfl 5 (by decide) (hts _ mX1_copyFrom_6) (fun _ h9 => h9) rfl dX1_copyFrom_46 ?_
  refine lv_iconst (v := 0) hx hb dX1_copyFrom_49 (by decide) ?_
  refine lv_iconst (v := 5) hx hb dX1_copyFrom_50 (by decide) ?_
  refine vcp_i (k := 5) hx hb (hml.trans hl.1.symm) hown (hts _ mX1_copyFrom_7) (hts _ mX1_copyFrom_8) (hts _ mX1_copyFrom_9) (hts _ mX1_copyFrom_10) hK hP hD hS 8 1 rfl rfl rfl rfl (by decide) (by decide) (by decide) (by decide) rfl (Nat.le_of_ble_eq_true rfl) (Nat.le_of_ble_eq_true rfl) dX1_copyFrom_51 (fun H locs hP hD hS => ?_)
  have hP : va_P D vwCl ([(q_t, .inr (1, [.int p1_factorCount, .int p1_termCount, .int p1_trialCount, .int p1_seenCount, .long p1_seenSquares, .ref q_t_terms, .ref q_t_times, .ref q_t_words, .ref q_t_wordMarks, .ref q_t_seenTimes, .ref q_t_seenSums])), (q_t_terms, .inl (cI, 5, .inl p1_terms)), (q_t_times, .inl (cI, 64, .inl t_times)), (q_t_words, .inl (cI, 4, .inl t_words)), (q_t_wordMarks, .inl (cI, 4, .inl t_wordMarks)), (q_t_seenTimes, .inl (cI, 64, .inl t_seenTimes)), (q_t_seenSums, .inl (cI, 64, .inl t_seenSums)), (q_p1, .inr (1, [.int p1_factorCount, .int p1_termCount, .int p1_trialCount, .int p1_seenCount, .long p1_seenSquares, .ref q_p1_terms, .ref q_p1_times, .ref q_p1_words, .ref q_p1_wordMarks, .ref q_p1_seenTimes, .ref q_p1_seenSums])), (q_p1_terms, .inl (cI, 5, .inl p1_terms)), (q_p1_times, .inl (cI, 64, .inl p1_times)), (q_p1_words, .inl (cI, 4, .inl p1_words)), (q_p1_wordMarks, .inl (cI, 4, .inl p1_wordMarks)), (q_p1_seenTimes, .inl (cI, 64, .inl p1_seenTimes)), (q_p1_seenSums, .inl (cI, 64, .inl p1_seenSums))]) H := hP
  have hD : va_D A ([(q_t, .inr (1, [.int p1_factorCount, .int p1_termCount, .int p1_trialCount, .int p1_seenCount, .long p1_seenSquares, .ref q_t_terms, .ref q_t_times, .ref q_t_words, .ref q_t_wordMarks, .ref q_t_seenTimes, .ref q_t_seenSums])), (q_t_terms, .inl (cI, 5, .inl p1_terms)), (q_t_times, .inl (cI, 64, .inl t_times)), (q_t_words, .inl (cI, 4, .inl t_words)), (q_t_wordMarks, .inl (cI, 4, .inl t_wordMarks)), (q_t_seenTimes, .inl (cI, 64, .inl t_seenTimes)), (q_t_seenSums, .inl (cI, 64, .inl t_seenSums)), (q_p1, .inr (1, [.int p1_factorCount, .int p1_termCount, .int p1_trialCount, .int p1_seenCount, .long p1_seenSquares, .ref q_p1_terms, .ref q_p1_times, .ref q_p1_words, .ref q_p1_wordMarks, .ref q_p1_seenTimes, .ref q_p1_seenSums])), (q_p1_terms, .inl (cI, 5, .inl p1_terms)), (q_p1_times, .inl (cI, 64, .inl p1_times)), (q_p1_words, .inl (cI, 4, .inl p1_words)), (q_p1_wordMarks, .inl (cI, 4, .inl p1_wordMarks)), (q_p1_seenTimes, .inl (cI, 64, .inl p1_seenTimes)), (q_p1_seenSums, .inl (cI, 64, .inl p1_seenSums))]) := hD
  refine lv_aload_n hx hb dX1_copyFrom_54 rfl (lv_at hl 1 rfl) ?_
  refine va_get (v := .ref q_p1_times) hx hb hts iX1 hown hK hP 7 rfl rfl 6 (by decide) (hts _ mX1_copyFrom_11) (fun _ h9 => h9) rfl dX1_copyFrom_55 ?_
  refine lv_iconst (v := 0) hx hb dX1_copyFrom_58 (by decide) ?_
  refine lv_aload_n hx hb dX1_copyFrom_59 rfl (lv_at hl 0 rfl) ?_
  refine va_get (v := .ref q_t_times) hx hb hts iX1 hown hK hP 0 rfl rfl 6 (by decide) (hts _ mX1_copyFrom_11) (fun _ h9 => h9) rfl dX1_copyFrom_60 ?_
  refine lv_iconst (v := 0) hx hb dX1_copyFrom_63 (by decide) ?_
  refine lv_bipush (v := 64) hx hb dX1_copyFrom_64 (by decide) ?_
  refine vcp_i (k := 64) hx hb (hml.trans hl.1.symm) hown (hts _ mX1_copyFrom_7) (hts _ mX1_copyFrom_8) (hts _ mX1_copyFrom_9) (hts _ mX1_copyFrom_10) hK hP hD hS 9 2 rfl rfl rfl rfl (by decide) (by decide) (by decide) (by decide) rfl (Nat.le_of_ble_eq_true rfl) (Nat.le_of_ble_eq_true rfl) dX1_copyFrom_66 (fun H locs hP hD hS => ?_)
  have hP : va_P D vwCl ([(q_t, .inr (1, [.int p1_factorCount, .int p1_termCount, .int p1_trialCount, .int p1_seenCount, .long p1_seenSquares, .ref q_t_terms, .ref q_t_times, .ref q_t_words, .ref q_t_wordMarks, .ref q_t_seenTimes, .ref q_t_seenSums])), (q_t_terms, .inl (cI, 5, .inl p1_terms)), (q_t_times, .inl (cI, 64, .inl p1_times)), (q_t_words, .inl (cI, 4, .inl t_words)), (q_t_wordMarks, .inl (cI, 4, .inl t_wordMarks)), (q_t_seenTimes, .inl (cI, 64, .inl t_seenTimes)), (q_t_seenSums, .inl (cI, 64, .inl t_seenSums)), (q_p1, .inr (1, [.int p1_factorCount, .int p1_termCount, .int p1_trialCount, .int p1_seenCount, .long p1_seenSquares, .ref q_p1_terms, .ref q_p1_times, .ref q_p1_words, .ref q_p1_wordMarks, .ref q_p1_seenTimes, .ref q_p1_seenSums])), (q_p1_terms, .inl (cI, 5, .inl p1_terms)), (q_p1_times, .inl (cI, 64, .inl p1_times)), (q_p1_words, .inl (cI, 4, .inl p1_words)), (q_p1_wordMarks, .inl (cI, 4, .inl p1_wordMarks)), (q_p1_seenTimes, .inl (cI, 64, .inl p1_seenTimes)), (q_p1_seenSums, .inl (cI, 64, .inl p1_seenSums))]) H := hP
  have hD : va_D A ([(q_t, .inr (1, [.int p1_factorCount, .int p1_termCount, .int p1_trialCount, .int p1_seenCount, .long p1_seenSquares, .ref q_t_terms, .ref q_t_times, .ref q_t_words, .ref q_t_wordMarks, .ref q_t_seenTimes, .ref q_t_seenSums])), (q_t_terms, .inl (cI, 5, .inl p1_terms)), (q_t_times, .inl (cI, 64, .inl p1_times)), (q_t_words, .inl (cI, 4, .inl t_words)), (q_t_wordMarks, .inl (cI, 4, .inl t_wordMarks)), (q_t_seenTimes, .inl (cI, 64, .inl t_seenTimes)), (q_t_seenSums, .inl (cI, 64, .inl t_seenSums)), (q_p1, .inr (1, [.int p1_factorCount, .int p1_termCount, .int p1_trialCount, .int p1_seenCount, .long p1_seenSquares, .ref q_p1_terms, .ref q_p1_times, .ref q_p1_words, .ref q_p1_wordMarks, .ref q_p1_seenTimes, .ref q_p1_seenSums])), (q_p1_terms, .inl (cI, 5, .inl p1_terms)), (q_p1_times, .inl (cI, 64, .inl p1_times)), (q_p1_words, .inl (cI, 4, .inl p1_words)), (q_p1_wordMarks, .inl (cI, 4, .inl p1_wordMarks)), (q_p1_seenTimes, .inl (cI, 64, .inl p1_seenTimes)), (q_p1_seenSums, .inl (cI, 64, .inl p1_seenSums))]) := hD
  refine lv_aload_n hx hb dX1_copyFrom_69 rfl (lv_at hl 1 rfl) ?_
  refine va_get (v := .ref q_p1_words) hx hb hts iX1 hown hK hP 7 rfl rfl 7 (by decide) (hts _ mX1_copyFrom_12) (fun _ h9 => h9) rfl dX1_copyFrom_70 ?_
  refine lv_iconst (v := 0) hx hb dX1_copyFrom_73 (by decide) ?_
  refine lv_aload_n hx hb dX1_copyFrom_74 rfl (lv_at hl 0 rfl) ?_
  refine va_get (v := .ref q_t_words) hx hb hts iX1 hown hK hP 0 rfl rfl 7 (by decide) (hts _ mX1_copyFrom_12) (fun _ h9 => h9) rfl dX1_copyFrom_75 ?_
  refine lv_iconst (v := 0) hx hb dX1_copyFrom_78 (by decide) ?_
  refine lv_iconst (v := 4) hx hb dX1_copyFrom_79 (by decide) ?_
  refine vcp_i (k := 4) hx hb (hml.trans hl.1.symm) hown (hts _ mX1_copyFrom_7) (hts _ mX1_copyFrom_8) (hts _ mX1_copyFrom_9) (hts _ mX1_copyFrom_10) hK hP hD hS 10 3 rfl rfl rfl rfl (by decide) (by decide) (by decide) (by decide) rfl (Nat.le_of_ble_eq_true rfl) (Nat.le_of_ble_eq_true rfl) dX1_copyFrom_80 (fun H locs hP hD hS => ?_)
  have hP : va_P D vwCl ([(q_t, .inr (1, [.int p1_factorCount, .int p1_termCount, .int p1_trialCount, .int p1_seenCount, .long p1_seenSquares, .ref q_t_terms, .ref q_t_times, .ref q_t_words, .ref q_t_wordMarks, .ref q_t_seenTimes, .ref q_t_seenSums])), (q_t_terms, .inl (cI, 5, .inl p1_terms)), (q_t_times, .inl (cI, 64, .inl p1_times)), (q_t_words, .inl (cI, 4, .inl p1_words)), (q_t_wordMarks, .inl (cI, 4, .inl t_wordMarks)), (q_t_seenTimes, .inl (cI, 64, .inl t_seenTimes)), (q_t_seenSums, .inl (cI, 64, .inl t_seenSums)), (q_p1, .inr (1, [.int p1_factorCount, .int p1_termCount, .int p1_trialCount, .int p1_seenCount, .long p1_seenSquares, .ref q_p1_terms, .ref q_p1_times, .ref q_p1_words, .ref q_p1_wordMarks, .ref q_p1_seenTimes, .ref q_p1_seenSums])), (q_p1_terms, .inl (cI, 5, .inl p1_terms)), (q_p1_times, .inl (cI, 64, .inl p1_times)), (q_p1_words, .inl (cI, 4, .inl p1_words)), (q_p1_wordMarks, .inl (cI, 4, .inl p1_wordMarks)), (q_p1_seenTimes, .inl (cI, 64, .inl p1_seenTimes)), (q_p1_seenSums, .inl (cI, 64, .inl p1_seenSums))]) H := hP
  have hD : va_D A ([(q_t, .inr (1, [.int p1_factorCount, .int p1_termCount, .int p1_trialCount, .int p1_seenCount, .long p1_seenSquares, .ref q_t_terms, .ref q_t_times, .ref q_t_words, .ref q_t_wordMarks, .ref q_t_seenTimes, .ref q_t_seenSums])), (q_t_terms, .inl (cI, 5, .inl p1_terms)), (q_t_times, .inl (cI, 64, .inl p1_times)), (q_t_words, .inl (cI, 4, .inl p1_words)), (q_t_wordMarks, .inl (cI, 4, .inl t_wordMarks)), (q_t_seenTimes, .inl (cI, 64, .inl t_seenTimes)), (q_t_seenSums, .inl (cI, 64, .inl t_seenSums)), (q_p1, .inr (1, [.int p1_factorCount, .int p1_termCount, .int p1_trialCount, .int p1_seenCount, .long p1_seenSquares, .ref q_p1_terms, .ref q_p1_times, .ref q_p1_words, .ref q_p1_wordMarks, .ref q_p1_seenTimes, .ref q_p1_seenSums])), (q_p1_terms, .inl (cI, 5, .inl p1_terms)), (q_p1_times, .inl (cI, 64, .inl p1_times)), (q_p1_words, .inl (cI, 4, .inl p1_words)), (q_p1_wordMarks, .inl (cI, 4, .inl p1_wordMarks)), (q_p1_seenTimes, .inl (cI, 64, .inl p1_seenTimes)), (q_p1_seenSums, .inl (cI, 64, .inl p1_seenSums))]) := hD
  refine lv_aload_n hx hb dX1_copyFrom_83 rfl (lv_at hl 1 rfl) ?_
  refine va_get (v := .ref q_p1_wordMarks) hx hb hts iX1 hown hK hP 7 rfl rfl 8 (by decide) (hts _ mX1_copyFrom_13) (fun _ h9 => h9) rfl dX1_copyFrom_84 ?_
  refine lv_iconst (v := 0) hx hb dX1_copyFrom_87 (by decide) ?_
  refine lv_aload_n hx hb dX1_copyFrom_88 rfl (lv_at hl 0 rfl) ?_
  refine va_get (v := .ref q_t_wordMarks) hx hb hts iX1 hown hK hP 0 rfl rfl 8 (by decide) (hts _ mX1_copyFrom_13) (fun _ h9 => h9) rfl dX1_copyFrom_89 ?_
  refine lv_iconst (v := 0) hx hb dX1_copyFrom_92 (by decide) ?_
  refine lv_iconst (v := 4) hx hb dX1_copyFrom_93 (by decide) ?_
  refine vcp_i (k := 4) hx hb (hml.trans hl.1.symm) hown (hts _ mX1_copyFrom_7) (hts _ mX1_copyFrom_8) (hts _ mX1_copyFrom_9) (hts _ mX1_copyFrom_10) hK hP hD hS 11 4 rfl rfl rfl rfl (by decide) (by decide) (by decide) (by decide) rfl (Nat.le_of_ble_eq_true rfl) (Nat.le_of_ble_eq_true rfl) dX1_copyFrom_94 (fun H locs hP hD hS => ?_)
  have hP : va_P D vwCl ([(q_t, .inr (1, [.int p1_factorCount, .int p1_termCount, .int p1_trialCount, .int p1_seenCount, .long p1_seenSquares, .ref q_t_terms, .ref q_t_times, .ref q_t_words, .ref q_t_wordMarks, .ref q_t_seenTimes, .ref q_t_seenSums])), (q_t_terms, .inl (cI, 5, .inl p1_terms)), (q_t_times, .inl (cI, 64, .inl p1_times)), (q_t_words, .inl (cI, 4, .inl p1_words)), (q_t_wordMarks, .inl (cI, 4, .inl p1_wordMarks)), (q_t_seenTimes, .inl (cI, 64, .inl t_seenTimes)), (q_t_seenSums, .inl (cI, 64, .inl t_seenSums)), (q_p1, .inr (1, [.int p1_factorCount, .int p1_termCount, .int p1_trialCount, .int p1_seenCount, .long p1_seenSquares, .ref q_p1_terms, .ref q_p1_times, .ref q_p1_words, .ref q_p1_wordMarks, .ref q_p1_seenTimes, .ref q_p1_seenSums])), (q_p1_terms, .inl (cI, 5, .inl p1_terms)), (q_p1_times, .inl (cI, 64, .inl p1_times)), (q_p1_words, .inl (cI, 4, .inl p1_words)), (q_p1_wordMarks, .inl (cI, 4, .inl p1_wordMarks)), (q_p1_seenTimes, .inl (cI, 64, .inl p1_seenTimes)), (q_p1_seenSums, .inl (cI, 64, .inl p1_seenSums))]) H := hP
  have hD : va_D A ([(q_t, .inr (1, [.int p1_factorCount, .int p1_termCount, .int p1_trialCount, .int p1_seenCount, .long p1_seenSquares, .ref q_t_terms, .ref q_t_times, .ref q_t_words, .ref q_t_wordMarks, .ref q_t_seenTimes, .ref q_t_seenSums])), (q_t_terms, .inl (cI, 5, .inl p1_terms)), (q_t_times, .inl (cI, 64, .inl p1_times)), (q_t_words, .inl (cI, 4, .inl p1_words)), (q_t_wordMarks, .inl (cI, 4, .inl p1_wordMarks)), (q_t_seenTimes, .inl (cI, 64, .inl t_seenTimes)), (q_t_seenSums, .inl (cI, 64, .inl t_seenSums)), (q_p1, .inr (1, [.int p1_factorCount, .int p1_termCount, .int p1_trialCount, .int p1_seenCount, .long p1_seenSquares, .ref q_p1_terms, .ref q_p1_times, .ref q_p1_words, .ref q_p1_wordMarks, .ref q_p1_seenTimes, .ref q_p1_seenSums])), (q_p1_terms, .inl (cI, 5, .inl p1_terms)), (q_p1_times, .inl (cI, 64, .inl p1_times)), (q_p1_words, .inl (cI, 4, .inl p1_words)), (q_p1_wordMarks, .inl (cI, 4, .inl p1_wordMarks)), (q_p1_seenTimes, .inl (cI, 64, .inl p1_seenTimes)), (q_p1_seenSums, .inl (cI, 64, .inl p1_seenSums))]) := hD
  refine lv_aload_n hx hb dX1_copyFrom_97 rfl (lv_at hl 1 rfl) ?_
  refine va_get (v := .ref q_p1_seenTimes) hx hb hts iX1 hown hK hP 7 rfl rfl 9 (by decide) (hts _ mX1_copyFrom_14) (fun _ h9 => h9) rfl dX1_copyFrom_98 ?_
  refine lv_iconst (v := 0) hx hb dX1_copyFrom_101 (by decide) ?_
  refine lv_aload_n hx hb dX1_copyFrom_102 rfl (lv_at hl 0 rfl) ?_
  refine va_get (v := .ref q_t_seenTimes) hx hb hts iX1 hown hK hP 0 rfl rfl 9 (by decide) (hts _ mX1_copyFrom_14) (fun _ h9 => h9) rfl dX1_copyFrom_103 ?_
  refine lv_iconst (v := 0) hx hb dX1_copyFrom_106 (by decide) ?_
  refine lv_bipush (v := 64) hx hb dX1_copyFrom_107 (by decide) ?_
  refine vcp_i (k := 64) hx hb (hml.trans hl.1.symm) hown (hts _ mX1_copyFrom_7) (hts _ mX1_copyFrom_8) (hts _ mX1_copyFrom_9) (hts _ mX1_copyFrom_10) hK hP hD hS 12 5 rfl rfl rfl rfl (by decide) (by decide) (by decide) (by decide) rfl (Nat.le_of_ble_eq_true rfl) (Nat.le_of_ble_eq_true rfl) dX1_copyFrom_109 (fun H locs hP hD hS => ?_)
  have hP : va_P D vwCl ([(q_t, .inr (1, [.int p1_factorCount, .int p1_termCount, .int p1_trialCount, .int p1_seenCount, .long p1_seenSquares, .ref q_t_terms, .ref q_t_times, .ref q_t_words, .ref q_t_wordMarks, .ref q_t_seenTimes, .ref q_t_seenSums])), (q_t_terms, .inl (cI, 5, .inl p1_terms)), (q_t_times, .inl (cI, 64, .inl p1_times)), (q_t_words, .inl (cI, 4, .inl p1_words)), (q_t_wordMarks, .inl (cI, 4, .inl p1_wordMarks)), (q_t_seenTimes, .inl (cI, 64, .inl p1_seenTimes)), (q_t_seenSums, .inl (cI, 64, .inl t_seenSums)), (q_p1, .inr (1, [.int p1_factorCount, .int p1_termCount, .int p1_trialCount, .int p1_seenCount, .long p1_seenSquares, .ref q_p1_terms, .ref q_p1_times, .ref q_p1_words, .ref q_p1_wordMarks, .ref q_p1_seenTimes, .ref q_p1_seenSums])), (q_p1_terms, .inl (cI, 5, .inl p1_terms)), (q_p1_times, .inl (cI, 64, .inl p1_times)), (q_p1_words, .inl (cI, 4, .inl p1_words)), (q_p1_wordMarks, .inl (cI, 4, .inl p1_wordMarks)), (q_p1_seenTimes, .inl (cI, 64, .inl p1_seenTimes)), (q_p1_seenSums, .inl (cI, 64, .inl p1_seenSums))]) H := hP
  have hD : va_D A ([(q_t, .inr (1, [.int p1_factorCount, .int p1_termCount, .int p1_trialCount, .int p1_seenCount, .long p1_seenSquares, .ref q_t_terms, .ref q_t_times, .ref q_t_words, .ref q_t_wordMarks, .ref q_t_seenTimes, .ref q_t_seenSums])), (q_t_terms, .inl (cI, 5, .inl p1_terms)), (q_t_times, .inl (cI, 64, .inl p1_times)), (q_t_words, .inl (cI, 4, .inl p1_words)), (q_t_wordMarks, .inl (cI, 4, .inl p1_wordMarks)), (q_t_seenTimes, .inl (cI, 64, .inl p1_seenTimes)), (q_t_seenSums, .inl (cI, 64, .inl t_seenSums)), (q_p1, .inr (1, [.int p1_factorCount, .int p1_termCount, .int p1_trialCount, .int p1_seenCount, .long p1_seenSquares, .ref q_p1_terms, .ref q_p1_times, .ref q_p1_words, .ref q_p1_wordMarks, .ref q_p1_seenTimes, .ref q_p1_seenSums])), (q_p1_terms, .inl (cI, 5, .inl p1_terms)), (q_p1_times, .inl (cI, 64, .inl p1_times)), (q_p1_words, .inl (cI, 4, .inl p1_words)), (q_p1_wordMarks, .inl (cI, 4, .inl p1_wordMarks)), (q_p1_seenTimes, .inl (cI, 64, .inl p1_seenTimes)), (q_p1_seenSums, .inl (cI, 64, .inl p1_seenSums))]) := hD
  refine lv_aload_n hx hb dX1_copyFrom_112 rfl (lv_at hl 1 rfl) ?_
  refine va_get (v := .ref q_p1_seenSums) hx hb hts iX1 hown hK hP 7 rfl rfl 10 (by decide) (hts _ mX1_copyFrom_15) (fun _ h9 => h9) rfl dX1_copyFrom_113 ?_
  refine lv_iconst (v := 0) hx hb dX1_copyFrom_116 (by decide) ?_
  refine lv_aload_n hx hb dX1_copyFrom_117 rfl (lv_at hl 0 rfl) ?_
  refine va_get (v := .ref q_t_seenSums) hx hb hts iX1 hown hK hP 0 rfl rfl 10 (by decide) (hts _ mX1_copyFrom_15) (fun _ h9 => h9) rfl dX1_copyFrom_118 ?_
  refine lv_iconst (v := 0) hx hb dX1_copyFrom_121 (by decide) ?_
  refine lv_bipush (v := 64) hx hb dX1_copyFrom_122 (by decide) ?_
  refine vcp_i (k := 64) hx hb (hml.trans hl.1.symm) hown (hts _ mX1_copyFrom_7) (hts _ mX1_copyFrom_8) (hts _ mX1_copyFrom_9) (hts _ mX1_copyFrom_10) hK hP hD hS 13 6 rfl rfl rfl rfl (by decide) (by decide) (by decide) (by decide) rfl (Nat.le_of_ble_eq_true rfl) (Nat.le_of_ble_eq_true rfl) dX1_copyFrom_124 (fun H locs hP hD hS => ?_)
  have hP : va_P D vwCl ([(q_t, .inr (1, [.int p1_factorCount, .int p1_termCount, .int p1_trialCount, .int p1_seenCount, .long p1_seenSquares, .ref q_t_terms, .ref q_t_times, .ref q_t_words, .ref q_t_wordMarks, .ref q_t_seenTimes, .ref q_t_seenSums])), (q_t_terms, .inl (cI, 5, .inl p1_terms)), (q_t_times, .inl (cI, 64, .inl p1_times)), (q_t_words, .inl (cI, 4, .inl p1_words)), (q_t_wordMarks, .inl (cI, 4, .inl p1_wordMarks)), (q_t_seenTimes, .inl (cI, 64, .inl p1_seenTimes)), (q_t_seenSums, .inl (cI, 64, .inl p1_seenSums)), (q_p1, .inr (1, [.int p1_factorCount, .int p1_termCount, .int p1_trialCount, .int p1_seenCount, .long p1_seenSquares, .ref q_p1_terms, .ref q_p1_times, .ref q_p1_words, .ref q_p1_wordMarks, .ref q_p1_seenTimes, .ref q_p1_seenSums])), (q_p1_terms, .inl (cI, 5, .inl p1_terms)), (q_p1_times, .inl (cI, 64, .inl p1_times)), (q_p1_words, .inl (cI, 4, .inl p1_words)), (q_p1_wordMarks, .inl (cI, 4, .inl p1_wordMarks)), (q_p1_seenTimes, .inl (cI, 64, .inl p1_seenTimes)), (q_p1_seenSums, .inl (cI, 64, .inl p1_seenSums))]) H := hP
  have hD : va_D A ([(q_t, .inr (1, [.int p1_factorCount, .int p1_termCount, .int p1_trialCount, .int p1_seenCount, .long p1_seenSquares, .ref q_t_terms, .ref q_t_times, .ref q_t_words, .ref q_t_wordMarks, .ref q_t_seenTimes, .ref q_t_seenSums])), (q_t_terms, .inl (cI, 5, .inl p1_terms)), (q_t_times, .inl (cI, 64, .inl p1_times)), (q_t_words, .inl (cI, 4, .inl p1_words)), (q_t_wordMarks, .inl (cI, 4, .inl p1_wordMarks)), (q_t_seenTimes, .inl (cI, 64, .inl p1_seenTimes)), (q_t_seenSums, .inl (cI, 64, .inl p1_seenSums)), (q_p1, .inr (1, [.int p1_factorCount, .int p1_termCount, .int p1_trialCount, .int p1_seenCount, .long p1_seenSquares, .ref q_p1_terms, .ref q_p1_times, .ref q_p1_words, .ref q_p1_wordMarks, .ref q_p1_seenTimes, .ref q_p1_seenSums])), (q_p1_terms, .inl (cI, 5, .inl p1_terms)), (q_p1_times, .inl (cI, 64, .inl p1_times)), (q_p1_words, .inl (cI, 4, .inl p1_words)), (q_p1_wordMarks, .inl (cI, 4, .inl p1_wordMarks)), (q_p1_seenTimes, .inl (cI, 64, .inl p1_seenTimes)), (q_p1_seenSums, .inl (cI, 64, .inl p1_seenSums))]) := hD
  subst hQ
  exact vr_V (p1_factorCount, p1_termCount, p1_trialCount, p1_seenCount, p1_seenSquares, p1_terms, p1_times, p1_words, p1_wordMarks, p1_seenTimes, p1_seenSums) hx hb hr hlk hP hD hS [0, 1, 2, 3, 4, 5, 6, 7, 8, 9, 10, 11, 12, 13] rfl rfl h dX1_copyFrom_127
theorem mX1_tryNothing_1 : Cond.fieldLink RX1 15 "TrialDesk$Desk" "times" "[I" ∈ wsX1_tryNothing := List.mem_of_getElem? (i := 1) (by decide +kernel)
theorem mX1_tryNothing_2 : Cond.fieldLink RX1 37 "TrialDesk$Desk" "trialCount" "I" ∈ wsX1_tryNothing := List.mem_of_getElem? (i := 2) (by decide +kernel)
abbrev rmX1_tryNothing : Room := { frames := 1, cells := 0, slots := 0, locals := 23 }
set_option maxHeartbeats 4000000 in
set_option maxRecDepth 100000 in
theorem ctX1_tryNothing (l : Launch) (D : va_G) (cB cI cJ cZ cR : ClassId) (tz : Nat) (q_t : Nat) (q_t_terms : Nat) (q_t_times : Nat) (q_t_words : Nat) (q_t_wordMarks : Nat) (q_t_seenTimes : Nat) (q_t_seenSums : Nat) (t_factorCount : Int32) (t_termCount : Int32) (t_trialCount : Int32) (t_seenCount : Int32) (t_seenSquares : Int64) (t_times : (Nat → Int32)) (k : Int32 → (Nat → Int32) → Prop) (h : wpX1_tryNothing t_trialCount t_times k) : MV l yX1_tryNothing wsX1_tryNothing rmX1_tryNothing D (vTy cB cI cJ cZ cR) tz [.ref q_t] ([(q_t, .inr (1, [.int t_factorCount, .int t_termCount, .int t_trialCount, .int t_seenCount, .long t_seenSquares, .ref q_t_terms, .ref q_t_times, .ref q_t_words, .ref q_t_wordMarks, .ref q_t_seenTimes, .ref q_t_seenSums])), (q_t_times, .inl (cI, 64, .inl t_times))]) (fun (u : Int32 × (Nat → Int32)) => k u.1 u.2) (fun (u : Int32 × (Nat → Int32)) => [(q_t, .inr (1, [.int t_factorCount, .int t_termCount, .int (u.1), .int t_seenCount, .long t_seenSquares, .ref q_t_terms, .ref q_t_times, .ref q_t_words, .ref q_t_wordMarks, .ref q_t_seenTimes, .ref q_t_seenSums])), (q_t_times, .inl (cI, 64, .inl (u.2)))]) 0 0 := by
  refine MV.of (cc := cX1_tryNothing) (maxL := 1) (ret := none) (by decide) rfl (Nat.le_of_ble_eq_true rfl) ?_
  intro p e s m args below meth c A ls Q hQ E
  obtain ⟨hx, hb, hml, hr, hts, hown, hlk, hin, hP, hK, hD, hS, hA, hT, hl⟩ := E
  have hown : s.vm.findClass RX1 = some m.cls := hown
  have hl : lv_has ls 1 [(0, .ref q_t)] := hl
  have iX1 : ∀ w ∈ wsX10, w ∈ wsX1_tryNothing := fun _ h => List.mem_cons_of_mem _ (List.mem_append_right _ h)
  unfold wpX1_tryNothing at h
  refine lv_aload_n hx hb dX1_tryNothing_0 rfl (lv_at hl 0 rfl) ?_
  refine va_get (v := .ref q_t_times) hx hb hts iX1 hown hK hP 0 rfl rfl 6 (by decide) (hts _ mX1_tryNothing_1) (fun _ h9 => h9) rfl dX1_tryNothing_1 ?_
  refine lv_iconst (v := 0) hx hb dX1_tryNothing_4 (by decide) ?_
  refine vc_SV (As := [.ref q_t_times, .int (0 : Int32)]) (rest := []) (wr := [(q_t, .inr (1, [.int t_factorCount, .int t_termCount, .int t_trialCount, .int t_seenCount, .long t_seenSquares, .ref q_t_terms, .ref q_t_times, .ref q_t_words, .ref q_t_wordMarks, .ref q_t_seenTimes, .ref q_t_seenSums]))]) ⟨hx, hb, hml, hown, hts⟩ (cfillI l D cB cI cJ cZ cR tz q_t_times 64 t_times (0 : Int32) (by decide)) (va_cwS 2 hts gX1_tryNothing_J7_fill_53178 rfl rfl rfl hdJ7_fill_53178.2 ⟨Nat.le_of_ble_eq_true rfl, Nat.le_of_ble_eq_true rfl⟩) hK hP hD hS hA hT [1] [0] rfl rfl rfl rfl (by decide) rfl rfl hl.1 (Nat.le_of_ble_eq_true rfl) dX1_tryNothing_5 ⟨Nat.le_of_ble_eq_true rfl, Nat.le_of_ble_eq_true rfl⟩ (fun u9 H locs h9 hP hD hS => ?_)
  have hP : va_P D vwCl ([(q_t, .inr (1, [.int t_factorCount, .int t_termCount, .int t_trialCount, .int t_seenCount, .long t_seenSquares, .ref q_t_terms, .ref q_t_times, .ref q_t_words, .ref q_t_wordMarks, .ref q_t_seenTimes, .ref q_t_seenSums])), (q_t_times, .inl (cI, 64, .inl (fun _ => (0 : Int32))))]) H := hP.sub [0, 1] rfl
  have hD : va_D A ([(q_t, .inr (1, [.int t_factorCount, .int t_termCount, .int t_trialCount, .int t_seenCount, .long t_seenSquares, .ref q_t_terms, .ref q_t_times, .ref q_t_words, .ref q_t_wordMarks, .ref q_t_seenTimes, .ref q_t_seenSums])), (q_t_times, .inl (cI, 64, .inl (fun _ => (0 : Int32))))]) := hD.sub [0, 1] rfl rfl
  refine lv_aload_n hx hb dX1_tryNothing_8 rfl (lv_at hl 0 rfl) ?_
  refine lv_iconst (v := 0) hx hb dX1_tryNothing_9 (by decide) ?_
  refine va_put (v := .int (0 : Int32)) (ty := .int) hx hb hts iX1 tyX1 tyX1_ok nmX1 hown hK hP hD hS 0 rfl rfl 2 (by decide) (hts _ mX1_tryNothing_2) (fun _ h9 => h9) rfl (tyX1_ok 2 (by decide)) rfl rfl (Nat.le_of_ble_eq_true rfl) dX1_tryNothing_10 (fun H locs hP hD hS => ?_)
  have hP : va_P D vwCl ([(q_t, .inr (1, [.int t_factorCount, .int t_termCount, .int (0 : Int32), .int t_seenCount, .long t_seenSquares, .ref q_t_terms, .ref q_t_times, .ref q_t_words, .ref q_t_wordMarks, .ref q_t_seenTimes, .ref q_t_seenSums])), (q_t_times, .inl (cI, 64, .inl (fun _ => (0 : Int32))))]) H := hP
  have hD : va_D A ([(q_t, .inr (1, [.int t_factorCount, .int t_termCount, .int (0 : Int32), .int t_seenCount, .long t_seenSquares, .ref q_t_terms, .ref q_t_times, .ref q_t_words, .ref q_t_wordMarks, .ref q_t_seenTimes, .ref q_t_seenSums])), (q_t_times, .inl (cI, 64, .inl (fun _ => (0 : Int32))))]) := hD
  subst hQ
  exact vr_V ((0 : Int32), fun _ => (0 : Int32)) hx hb hr hlk hP hD hS [0, 1] rfl rfl h dX1_tryNothing_13
theorem mX1_seeNothing_1 : Cond.fieldLink RX1 24 "TrialDesk$Desk" "seenTimes" "[I" ∈ wsX1_seeNothing := List.mem_of_getElem? (i := 1) (by decide +kernel)
theorem mX1_seeNothing_2 : Cond.fieldLink RX1 27 "TrialDesk$Desk" "seenSums" "[I" ∈ wsX1_seeNothing := List.mem_of_getElem? (i := 2) (by decide +kernel)
theorem mX1_seeNothing_3 : Cond.fieldLink RX1 43 "TrialDesk$Desk" "seenSquares" "J" ∈ wsX1_seeNothing := List.mem_of_getElem? (i := 3) (by decide +kernel)
theorem mX1_seeNothing_4 : Cond.fieldLink RX1 40 "TrialDesk$Desk" "seenCount" "I" ∈ wsX1_seeNothing := List.mem_of_getElem? (i := 4) (by decide +kernel)
abbrev rmX1_seeNothing : Room := { frames := 1, cells := 0, slots := 0, locals := 23 }
set_option maxHeartbeats 4000000 in
set_option maxRecDepth 100000 in
theorem ctX1_seeNothing (l : Launch) (D : va_G) (cB cI cJ cZ cR : ClassId) (tz : Nat) (q_t : Nat) (q_t_terms : Nat) (q_t_times : Nat) (q_t_words : Nat) (q_t_wordMarks : Nat) (q_t_seenTimes : Nat) (q_t_seenSums : Nat) (t_factorCount : Int32) (t_termCount : Int32) (t_trialCount : Int32) (t_seenCount : Int32) (t_seenSquares : Int64) (t_seenTimes : (Nat → Int32)) (t_seenSums : (Nat → Int32)) (k : Int32 → Int64 → (Nat → Int32) → (Nat → Int32) → Prop) (h : wpX1_seeNothing t_seenCount t_seenSquares t_seenTimes t_seenSums k) : MV l yX1_seeNothing wsX1_seeNothing rmX1_seeNothing D (vTy cB cI cJ cZ cR) tz [.ref q_t] ([(q_t, .inr (1, [.int t_factorCount, .int t_termCount, .int t_trialCount, .int t_seenCount, .long t_seenSquares, .ref q_t_terms, .ref q_t_times, .ref q_t_words, .ref q_t_wordMarks, .ref q_t_seenTimes, .ref q_t_seenSums])), (q_t_seenTimes, .inl (cI, 64, .inl t_seenTimes)), (q_t_seenSums, .inl (cI, 64, .inl t_seenSums))]) (fun (u : Int32 × Int64 × (Nat → Int32) × (Nat → Int32)) => k u.1 u.2.1 u.2.2.1 u.2.2.2) (fun (u : Int32 × Int64 × (Nat → Int32) × (Nat → Int32)) => [(q_t, .inr (1, [.int t_factorCount, .int t_termCount, .int t_trialCount, .int (u.1), .long (u.2.1), .ref q_t_terms, .ref q_t_times, .ref q_t_words, .ref q_t_wordMarks, .ref q_t_seenTimes, .ref q_t_seenSums])), (q_t_seenTimes, .inl (cI, 64, .inl (u.2.2.1))), (q_t_seenSums, .inl (cI, 64, .inl (u.2.2.2)))]) 0 0 := by
  refine MV.of (cc := cX1_seeNothing) (maxL := 1) (ret := none) (by decide) rfl (Nat.le_of_ble_eq_true rfl) ?_
  intro p e s m args below meth c A ls Q hQ E
  obtain ⟨hx, hb, hml, hr, hts, hown, hlk, hin, hP, hK, hD, hS, hA, hT, hl⟩ := E
  have hown : s.vm.findClass RX1 = some m.cls := hown
  have hl : lv_has ls 1 [(0, .ref q_t)] := hl
  have iX1 : ∀ w ∈ wsX10, w ∈ wsX1_seeNothing := fun _ h => List.mem_cons_of_mem _ (List.mem_append_right _ h)
  unfold wpX1_seeNothing at h
  refine lv_aload_n hx hb dX1_seeNothing_0 rfl (lv_at hl 0 rfl) ?_
  refine va_get (v := .ref q_t_seenTimes) hx hb hts iX1 hown hK hP 0 rfl rfl 9 (by decide) (hts _ mX1_seeNothing_1) (fun _ h9 => h9) rfl dX1_seeNothing_1 ?_
  refine lv_iconst (v := 0) hx hb dX1_seeNothing_4 (by decide) ?_
  refine vc_SV (As := [.ref q_t_seenTimes, .int (0 : Int32)]) (rest := []) (wr := [(q_t, .inr (1, [.int t_factorCount, .int t_termCount, .int t_trialCount, .int t_seenCount, .long t_seenSquares, .ref q_t_terms, .ref q_t_times, .ref q_t_words, .ref q_t_wordMarks, .ref q_t_seenTimes, .ref q_t_seenSums])), (q_t_seenSums, .inl (cI, 64, .inl t_seenSums))]) ⟨hx, hb, hml, hown, hts⟩ (cfillI l D cB cI cJ cZ cR tz q_t_seenTimes 64 t_seenTimes (0 : Int32) (by decide)) (va_cwS 2 hts gX1_seeNothing_J7_fill_53178 rfl rfl rfl hdJ7_fill_53178.2 ⟨Nat.le_of_ble_eq_true rfl, Nat.le_of_ble_eq_true rfl⟩) hK hP hD hS hA hT [1] [0, 2] rfl rfl rfl rfl (by decide) rfl rfl hl.1 (Nat.le_of_ble_eq_true rfl) dX1_seeNothing_5 ⟨Nat.le_of_ble_eq_true rfl, Nat.le_of_ble_eq_true rfl⟩ (fun u9 H locs h9 hP hD hS => ?_)
  have hP : va_P D vwCl ([(q_t, .inr (1, [.int t_factorCount, .int t_termCount, .int t_trialCount, .int t_seenCount, .long t_seenSquares, .ref q_t_terms, .ref q_t_times, .ref q_t_words, .ref q_t_wordMarks, .ref q_t_seenTimes, .ref q_t_seenSums])), (q_t_seenTimes, .inl (cI, 64, .inl (fun _ => (0 : Int32)))), (q_t_seenSums, .inl (cI, 64, .inl t_seenSums))]) H := hP.sub [0, 2, 1] rfl
  have hD : va_D A ([(q_t, .inr (1, [.int t_factorCount, .int t_termCount, .int t_trialCount, .int t_seenCount, .long t_seenSquares, .ref q_t_terms, .ref q_t_times, .ref q_t_words, .ref q_t_wordMarks, .ref q_t_seenTimes, .ref q_t_seenSums])), (q_t_seenTimes, .inl (cI, 64, .inl (fun _ => (0 : Int32)))), (q_t_seenSums, .inl (cI, 64, .inl t_seenSums))]) := hD.sub [0, 2, 1] rfl rfl
  refine lv_aload_n hx hb dX1_seeNothing_8 rfl (lv_at hl 0 rfl) ?_
  refine va_get (v := .ref q_t_seenSums) hx hb hts iX1 hown hK hP 0 rfl rfl 10 (by decide) (hts _ mX1_seeNothing_2) (fun _ h9 => h9) rfl dX1_seeNothing_9 ?_
  refine lv_iconst (v := 0) hx hb dX1_seeNothing_12 (by decide) ?_
  refine vc_SV (As := [.ref q_t_seenSums, .int (0 : Int32)]) (rest := []) (wr := [(q_t, .inr (1, [.int t_factorCount, .int t_termCount, .int t_trialCount, .int t_seenCount, .long t_seenSquares, .ref q_t_terms, .ref q_t_times, .ref q_t_words, .ref q_t_wordMarks, .ref q_t_seenTimes, .ref q_t_seenSums])), (q_t_seenTimes, .inl (cI, 64, .inl (fun _ => (0 : Int32))))]) ⟨hx, hb, hml, hown, hts⟩ (cfillI l D cB cI cJ cZ cR tz q_t_seenSums 64 t_seenSums (0 : Int32) (by decide)) (va_cwS 2 hts gX1_seeNothing_J7_fill_53178 rfl rfl rfl hdJ7_fill_53178.2 ⟨Nat.le_of_ble_eq_true rfl, Nat.le_of_ble_eq_true rfl⟩) hK hP hD hS hA hT [2] [0, 1] rfl rfl rfl rfl (by decide) rfl rfl hl.1 (Nat.le_of_ble_eq_true rfl) dX1_seeNothing_13 ⟨Nat.le_of_ble_eq_true rfl, Nat.le_of_ble_eq_true rfl⟩ (fun u9 H locs h9 hP hD hS => ?_)
  have hP : va_P D vwCl ([(q_t, .inr (1, [.int t_factorCount, .int t_termCount, .int t_trialCount, .int t_seenCount, .long t_seenSquares, .ref q_t_terms, .ref q_t_times, .ref q_t_words, .ref q_t_wordMarks, .ref q_t_seenTimes, .ref q_t_seenSums])), (q_t_seenTimes, .inl (cI, 64, .inl (fun _ => (0 : Int32)))), (q_t_seenSums, .inl (cI, 64, .inl (fun _ => (0 : Int32))))]) H := hP.sub [0, 1, 2] rfl
  have hD : va_D A ([(q_t, .inr (1, [.int t_factorCount, .int t_termCount, .int t_trialCount, .int t_seenCount, .long t_seenSquares, .ref q_t_terms, .ref q_t_times, .ref q_t_words, .ref q_t_wordMarks, .ref q_t_seenTimes, .ref q_t_seenSums])), (q_t_seenTimes, .inl (cI, 64, .inl (fun _ => (0 : Int32)))), (q_t_seenSums, .inl (cI, 64, .inl (fun _ => (0 : Int32))))]) := hD.sub [0, 1, 2] rfl rfl
  refine lv_aload_n hx hb dX1_seeNothing_16 rfl (lv_at hl 0 rfl) ?_
  refine lv_lconst (v := 0) hx hb dX1_seeNothing_17 (by decide) ?_
  refine va_put (v := .long (0 : Int64)) (ty := .long) hx hb hts iX1 tyX1 tyX1_ok nmX1 hown hK hP hD hS 0 rfl rfl 4 (by decide) (hts _ mX1_seeNothing_3) (fun _ h9 => h9) rfl (tyX1_ok 4 (by decide)) rfl rfl (Nat.le_of_ble_eq_true rfl) dX1_seeNothing_18 (fun H locs hP hD hS => ?_)
  have hP : va_P D vwCl ([(q_t, .inr (1, [.int t_factorCount, .int t_termCount, .int t_trialCount, .int t_seenCount, .long (0 : Int64), .ref q_t_terms, .ref q_t_times, .ref q_t_words, .ref q_t_wordMarks, .ref q_t_seenTimes, .ref q_t_seenSums])), (q_t_seenTimes, .inl (cI, 64, .inl (fun _ => (0 : Int32)))), (q_t_seenSums, .inl (cI, 64, .inl (fun _ => (0 : Int32))))]) H := hP
  have hD : va_D A ([(q_t, .inr (1, [.int t_factorCount, .int t_termCount, .int t_trialCount, .int t_seenCount, .long (0 : Int64), .ref q_t_terms, .ref q_t_times, .ref q_t_words, .ref q_t_wordMarks, .ref q_t_seenTimes, .ref q_t_seenSums])), (q_t_seenTimes, .inl (cI, 64, .inl (fun _ => (0 : Int32)))), (q_t_seenSums, .inl (cI, 64, .inl (fun _ => (0 : Int32))))]) := hD
  refine lv_aload_n hx hb dX1_seeNothing_21 rfl (lv_at hl 0 rfl) ?_
  refine lv_iconst (v := 0) hx hb dX1_seeNothing_22 (by decide) ?_
  refine va_put (v := .int (0 : Int32)) (ty := .int) hx hb hts iX1 tyX1 tyX1_ok nmX1 hown hK hP hD hS 0 rfl rfl 3 (by decide) (hts _ mX1_seeNothing_4) (fun _ h9 => h9) rfl (tyX1_ok 3 (by decide)) rfl rfl (Nat.le_of_ble_eq_true rfl) dX1_seeNothing_23 (fun H locs hP hD hS => ?_)
  have hP : va_P D vwCl ([(q_t, .inr (1, [.int t_factorCount, .int t_termCount, .int t_trialCount, .int (0 : Int32), .long (0 : Int64), .ref q_t_terms, .ref q_t_times, .ref q_t_words, .ref q_t_wordMarks, .ref q_t_seenTimes, .ref q_t_seenSums])), (q_t_seenTimes, .inl (cI, 64, .inl (fun _ => (0 : Int32)))), (q_t_seenSums, .inl (cI, 64, .inl (fun _ => (0 : Int32))))]) H := hP
  have hD : va_D A ([(q_t, .inr (1, [.int t_factorCount, .int t_termCount, .int t_trialCount, .int (0 : Int32), .long (0 : Int64), .ref q_t_terms, .ref q_t_times, .ref q_t_words, .ref q_t_wordMarks, .ref q_t_seenTimes, .ref q_t_seenSums])), (q_t_seenTimes, .inl (cI, 64, .inl (fun _ => (0 : Int32)))), (q_t_seenSums, .inl (cI, 64, .inl (fun _ => (0 : Int32))))]) := hD
  subst hQ
  exact vr_V ((0 : Int32), (0 : Int64), fun _ => (0 : Int32), fun _ => (0 : Int32)) hx hb hr hlk hP hD hS [0, 1, 2] rfl rfl h dX1_seeNothing_26
theorem mX1_restart_1 : Cond.fieldLink RX1 30 "TrialDesk$Desk" "factorCount" "I" ∈ wsX1_restart := List.mem_of_getElem? (i := 1) (by decide +kernel)
theorem mX1_restart_2 : Cond.fieldLink RX1 34 "TrialDesk$Desk" "termCount" "I" ∈ wsX1_restart := List.mem_of_getElem? (i := 2) (by decide +kernel)
theorem mX1_restart_3 : Cond.fieldLink RX1 9 "TrialDesk$Desk" "terms" "[I" ∈ wsX1_restart := List.mem_of_getElem? (i := 3) (by decide +kernel)
theorem mX1_restart_4 : Cond.fieldLink RX1 18 "TrialDesk$Desk" "words" "[I" ∈ wsX1_restart := List.mem_of_getElem? (i := 4) (by decide +kernel)
abbrev rmX1_restart : Room := { frames := 2, cells := 0, slots := 0, locals := 43 }
set_option maxHeartbeats 4000000 in
set_option maxRecDepth 100000 in
theorem ctX1_restart (l : Launch) (D : va_G) (cB cI cJ cZ cR : ClassId) (tz : Nat) (q_t : Nat) (q_t_terms : Nat) (q_t_times : Nat) (q_t_words : Nat) (q_t_wordMarks : Nat) (q_t_seenTimes : Nat) (q_t_seenSums : Nat) (t_factorCount : Int32) (t_termCount : Int32) (t_trialCount : Int32) (t_seenCount : Int32) (t_seenSquares : Int64) (t_terms : (Nat → Int32)) (t_times : (Nat → Int32)) (t_words : (Nat → Int32)) (t_seenTimes : (Nat → Int32)) (t_seenSums : (Nat → Int32)) (a1 : Int32) (k : Int32 → Int32 → Int32 → Int32 → Int64 → (Nat → Int32) → (Nat → Int32) → (Nat → Int32) → (Nat → Int32) → (Nat → Int32) → Prop) (h : wpX1_restart t_factorCount t_termCount t_trialCount t_seenCount t_seenSquares t_terms t_times t_words t_seenTimes t_seenSums a1 k) : MV l yX1_restart wsX1_restart rmX1_restart D (vTy cB cI cJ cZ cR) tz [.ref q_t, .int a1] ([(q_t, .inr (1, [.int t_factorCount, .int t_termCount, .int t_trialCount, .int t_seenCount, .long t_seenSquares, .ref q_t_terms, .ref q_t_times, .ref q_t_words, .ref q_t_wordMarks, .ref q_t_seenTimes, .ref q_t_seenSums])), (q_t_terms, .inl (cI, 5, .inl t_terms)), (q_t_times, .inl (cI, 64, .inl t_times)), (q_t_words, .inl (cI, 4, .inl t_words)), (q_t_seenTimes, .inl (cI, 64, .inl t_seenTimes)), (q_t_seenSums, .inl (cI, 64, .inl t_seenSums))]) (fun (u : Int32 × Int32 × Int32 × Int32 × Int64 × (Nat → Int32) × (Nat → Int32) × (Nat → Int32) × (Nat → Int32) × (Nat → Int32)) => k u.1 u.2.1 u.2.2.1 u.2.2.2.1 u.2.2.2.2.1 u.2.2.2.2.2.1 u.2.2.2.2.2.2.1 u.2.2.2.2.2.2.2.1 u.2.2.2.2.2.2.2.2.1 u.2.2.2.2.2.2.2.2.2) (fun (u : Int32 × Int32 × Int32 × Int32 × Int64 × (Nat → Int32) × (Nat → Int32) × (Nat → Int32) × (Nat → Int32) × (Nat → Int32)) => [(q_t, .inr (1, [.int (u.1), .int (u.2.1), .int (u.2.2.1), .int (u.2.2.2.1), .long (u.2.2.2.2.1), .ref q_t_terms, .ref q_t_times, .ref q_t_words, .ref q_t_wordMarks, .ref q_t_seenTimes, .ref q_t_seenSums])), (q_t_terms, .inl (cI, 5, .inl (u.2.2.2.2.2.1))), (q_t_times, .inl (cI, 64, .inl (u.2.2.2.2.2.2.1))), (q_t_words, .inl (cI, 4, .inl (u.2.2.2.2.2.2.2.1))), (q_t_seenTimes, .inl (cI, 64, .inl (u.2.2.2.2.2.2.2.2.1))), (q_t_seenSums, .inl (cI, 64, .inl (u.2.2.2.2.2.2.2.2.2)))]) 0 0 := by
  refine MV.of (cc := cX1_restart) (maxL := 2) (ret := none) (by decide) rfl (Nat.le_of_ble_eq_true rfl) ?_
  intro p e s m args below meth c A ls Q hQ E
  obtain ⟨hx, hb, hml, hr, hts, hown, hlk, hin, hP, hK, hD, hS, hA, hT, hl⟩ := E
  have hown : s.vm.findClass RX1 = some m.cls := hown
  have hl : lv_has ls 2 [(0, .ref q_t), (1, .int a1)] := hl
  have iX1 : ∀ w ∈ wsX10, w ∈ wsX1_restart := fun _ h => List.mem_cons_of_mem _ (List.mem_append_right _ h)
  unfold wpX1_restart at h
  refine lv_aload_n hx hb dX1_restart_0 rfl (lv_at hl 0 rfl) ?_
  refine lv_iload_n hx hb dX1_restart_1 rfl (lv_at hl 1 rfl) ?_
  refine va_put (v := .int a1) (ty := .int) hx hb hts iX1 tyX1 tyX1_ok nmX1 hown hK hP hD hS 0 rfl rfl 0 (by decide) (hts _ mX1_restart_1) (fun _ h9 => h9) rfl (tyX1_ok 0 (by decide)) rfl rfl (Nat.le_of_ble_eq_true rfl) dX1_restart_2 (fun H locs hP hD hS => ?_)
  have hP : va_P D vwCl ([(q_t, .inr (1, [.int a1, .int t_termCount, .int t_trialCount, .int t_seenCount, .long t_seenSquares, .ref q_t_terms, .ref q_t_times, .ref q_t_words, .ref q_t_wordMarks, .ref q_t_seenTimes, .ref q_t_seenSums])), (q_t_terms, .inl (cI, 5, .inl t_terms)), (q_t_times, .inl (cI, 64, .inl t_times)), (q_t_words, .inl (cI, 4, .inl t_words)), (q_t_seenTimes, .inl (cI, 64, .inl t_seenTimes)), (q_t_seenSums, .inl (cI, 64, .inl t_seenSums))]) H := hP
  have hD : va_D A ([(q_t, .inr (1, [.int a1, .int t_termCount, .int t_trialCount, .int t_seenCount, .long t_seenSquares, .ref q_t_terms, .ref q_t_times, .ref q_t_words, .ref q_t_wordMarks, .ref q_t_seenTimes, .ref q_t_seenSums])), (q_t_terms, .inl (cI, 5, .inl t_terms)), (q_t_times, .inl (cI, 64, .inl t_times)), (q_t_words, .inl (cI, 4, .inl t_words)), (q_t_seenTimes, .inl (cI, 64, .inl t_seenTimes)), (q_t_seenSums, .inl (cI, 64, .inl t_seenSums))]) := hD
  refine lv_aload_n hx hb dX1_restart_5 rfl (lv_at hl 0 rfl) ?_
  refine lv_iconst (v := 1) hx hb dX1_restart_6 (by decide) ?_
  refine va_put (v := .int (1 : Int32)) (ty := .int) hx hb hts iX1 tyX1 tyX1_ok nmX1 hown hK hP hD hS 0 rfl rfl 1 (by decide) (hts _ mX1_restart_2) (fun _ h9 => h9) rfl (tyX1_ok 1 (by decide)) rfl rfl (Nat.le_of_ble_eq_true rfl) dX1_restart_7 (fun H locs hP hD hS => ?_)
  have hP : va_P D vwCl ([(q_t, .inr (1, [.int a1, .int (1 : Int32), .int t_trialCount, .int t_seenCount, .long t_seenSquares, .ref q_t_terms, .ref q_t_times, .ref q_t_words, .ref q_t_wordMarks, .ref q_t_seenTimes, .ref q_t_seenSums])), (q_t_terms, .inl (cI, 5, .inl t_terms)), (q_t_times, .inl (cI, 64, .inl t_times)), (q_t_words, .inl (cI, 4, .inl t_words)), (q_t_seenTimes, .inl (cI, 64, .inl t_seenTimes)), (q_t_seenSums, .inl (cI, 64, .inl t_seenSums))]) H := hP
  have hD : va_D A ([(q_t, .inr (1, [.int a1, .int (1 : Int32), .int t_trialCount, .int t_seenCount, .long t_seenSquares, .ref q_t_terms, .ref q_t_times, .ref q_t_words, .ref q_t_wordMarks, .ref q_t_seenTimes, .ref q_t_seenSums])), (q_t_terms, .inl (cI, 5, .inl t_terms)), (q_t_times, .inl (cI, 64, .inl t_times)), (q_t_words, .inl (cI, 4, .inl t_words)), (q_t_seenTimes, .inl (cI, 64, .inl t_seenTimes)), (q_t_seenSums, .inl (cI, 64, .inl t_seenSums))]) := hD
  refine lv_aload_n hx hb dX1_restart_10 rfl (lv_at hl 0 rfl) ?_
  refine va_get (v := .ref q_t_terms) hx hb hts iX1 hown hK hP 0 rfl rfl 5 (by decide) (hts _ mX1_restart_3) (fun _ h9 => h9) rfl dX1_restart_11 ?_
  refine lv_iconst (v := 0) hx hb dX1_restart_14 (by decide) ?_
  refine lv_iconst (v := 0) hx hb dX1_restart_15 (by decide) ?_
  refine vi_ast (x := (0 : Int32)) hx hb hK hP hD hS 1 1 rfl rfl (vlit 0 5 rfl) (k := 0) rfl dX1_restart_16 (fun H locs hP hD hS => ?_)
  have hP : va_P D vwCl ([(q_t, .inr (1, [.int a1, .int (1 : Int32), .int t_trialCount, .int t_seenCount, .long t_seenSquares, .ref q_t_terms, .ref q_t_times, .ref q_t_words, .ref q_t_wordMarks, .ref q_t_seenTimes, .ref q_t_seenSums])), (q_t_terms, .inl (cI, 5, .inl (upd t_terms 0 (0 : Int32)))), (q_t_times, .inl (cI, 64, .inl t_times)), (q_t_words, .inl (cI, 4, .inl t_words)), (q_t_seenTimes, .inl (cI, 64, .inl t_seenTimes)), (q_t_seenSums, .inl (cI, 64, .inl t_seenSums))]) H := hP
  have hD : va_D A ([(q_t, .inr (1, [.int a1, .int (1 : Int32), .int t_trialCount, .int t_seenCount, .long t_seenSquares, .ref q_t_terms, .ref q_t_times, .ref q_t_words, .ref q_t_wordMarks, .ref q_t_seenTimes, .ref q_t_seenSums])), (q_t_terms, .inl (cI, 5, .inl (upd t_terms 0 (0 : Int32)))), (q_t_times, .inl (cI, 64, .inl t_times)), (q_t_words, .inl (cI, 4, .inl t_words)), (q_t_seenTimes, .inl (cI, 64, .inl t_seenTimes)), (q_t_seenSums, .inl (cI, 64, .inl t_seenSums))]) := hD
  refine lv_aload_n hx hb dX1_restart_17 rfl (lv_at hl 0 rfl) ?_
  refine va_get (v := .ref q_t_words) hx hb hts iX1 hown hK hP 0 rfl rfl 7 (by decide) (hts _ mX1_restart_4) (fun _ h9 => h9) rfl dX1_restart_18 ?_
  refine lv_iconst (v := 0) hx hb dX1_restart_21 (by decide) ?_
  refine vc_SV (As := [.ref q_t_words, .int (0 : Int32)]) (rest := []) (wr := [(q_t, .inr (1, [.int a1, .int (1 : Int32), .int t_trialCount, .int t_seenCount, .long t_seenSquares, .ref q_t_terms, .ref q_t_times, .ref q_t_words, .ref q_t_wordMarks, .ref q_t_seenTimes, .ref q_t_seenSums])), (q_t_terms, .inl (cI, 5, .inl (upd t_terms 0 (0 : Int32)))), (q_t_times, .inl (cI, 64, .inl t_times)), (q_t_seenTimes, .inl (cI, 64, .inl t_seenTimes)), (q_t_seenSums, .inl (cI, 64, .inl t_seenSums))]) ⟨hx, hb, hml, hown, hts⟩ (cfillI l D cB cI cJ cZ cR tz q_t_words 4 t_words (0 : Int32) (by decide)) (va_cwS 2 hts gX1_restart_J7_fill_53178 rfl rfl rfl hdJ7_fill_53178.2 ⟨Nat.le_of_ble_eq_true rfl, Nat.le_of_ble_eq_true rfl⟩) hK hP hD hS hA hT [3] [0, 1, 2, 4, 5] rfl rfl rfl rfl (by decide) rfl rfl hl.1 (Nat.le_of_ble_eq_true rfl) dX1_restart_22 ⟨Nat.le_of_ble_eq_true rfl, Nat.le_of_ble_eq_true rfl⟩ (fun u9 H locs h9 hP hD hS => ?_)
  have hP : va_P D vwCl ([(q_t, .inr (1, [.int a1, .int (1 : Int32), .int t_trialCount, .int t_seenCount, .long t_seenSquares, .ref q_t_terms, .ref q_t_times, .ref q_t_words, .ref q_t_wordMarks, .ref q_t_seenTimes, .ref q_t_seenSums])), (q_t_terms, .inl (cI, 5, .inl (upd t_terms 0 (0 : Int32)))), (q_t_times, .inl (cI, 64, .inl t_times)), (q_t_words, .inl (cI, 4, .inl (fun _ => (0 : Int32)))), (q_t_seenTimes, .inl (cI, 64, .inl t_seenTimes)), (q_t_seenSums, .inl (cI, 64, .inl t_seenSums))]) H := hP.sub [0, 1, 2, 5, 3, 4] rfl
  have hD : va_D A ([(q_t, .inr (1, [.int a1, .int (1 : Int32), .int t_trialCount, .int t_seenCount, .long t_seenSquares, .ref q_t_terms, .ref q_t_times, .ref q_t_words, .ref q_t_wordMarks, .ref q_t_seenTimes, .ref q_t_seenSums])), (q_t_terms, .inl (cI, 5, .inl (upd t_terms 0 (0 : Int32)))), (q_t_times, .inl (cI, 64, .inl t_times)), (q_t_words, .inl (cI, 4, .inl (fun _ => (0 : Int32)))), (q_t_seenTimes, .inl (cI, 64, .inl t_seenTimes)), (q_t_seenSums, .inl (cI, 64, .inl t_seenSums))]) := hD.sub [0, 1, 2, 5, 3, 4] rfl rfl
  refine lv_aload_n hx hb dX1_restart_25 rfl (lv_at hl 0 rfl) ?_
  refine vc_VV (As := []) (rest := []) (wr := [(q_t_terms, .inl (cI, 5, .inl (upd t_terms 0 (0 : Int32)))), (q_t_words, .inl (cI, 4, .inl (fun _ => (0 : Int32)))), (q_t_seenTimes, .inl (cI, 64, .inl t_seenTimes)), (q_t_seenSums, .inl (cI, 64, .inl t_seenSums))]) ⟨hx, hb, hml, hown, hts⟩ (ctX1_tryNothing l D cB cI cJ cZ cR tz q_t q_t_terms q_t_times q_t_words q_t_wordMarks q_t_seenTimes q_t_seenSums a1 (1 : Int32) t_trialCount t_seenCount t_seenSquares t_times _ h) (cwV 0 hts gX1_restart_X1_tryNothing rfl rfl rfl hdX1_tryNothing ⟨Nat.le_of_ble_eq_true rfl, Nat.le_of_ble_eq_true rfl⟩) hK hP hD hS hA hT [0, 2] [1, 3, 4, 5] rfl rfl rfl rfl (by decide) 0 1 rfl rfl rfl rfl hl.1 (Nat.le_of_ble_eq_true rfl) dX1_restart_26 ⟨Nat.le_of_ble_eq_true rfl, Nat.le_of_ble_eq_true rfl⟩ (fun u9 H locs h hP hD hS => ?_)
  obtain ⟨t_trialCount_1, t_times_2⟩ := u9
  have hP : va_P D vwCl ([(q_t, .inr (1, [.int a1, .int (1 : Int32), .int t_trialCount_1, .int t_seenCount, .long t_seenSquares, .ref q_t_terms, .ref q_t_times, .ref q_t_words, .ref q_t_wordMarks, .ref q_t_seenTimes, .ref q_t_seenSums])), (q_t_terms, .inl (cI, 5, .inl (upd t_terms 0 (0 : Int32)))), (q_t_times, .inl (cI, 64, .inl t_times_2)), (q_t_words, .inl (cI, 4, .inl (fun _ => (0 : Int32)))), (q_t_seenTimes, .inl (cI, 64, .inl t_seenTimes)), (q_t_seenSums, .inl (cI, 64, .inl t_seenSums))]) H := hP.sub [4, 0, 5, 1, 2, 3] rfl
  have hD : va_D A ([(q_t, .inr (1, [.int a1, .int (1 : Int32), .int t_trialCount_1, .int t_seenCount, .long t_seenSquares, .ref q_t_terms, .ref q_t_times, .ref q_t_words, .ref q_t_wordMarks, .ref q_t_seenTimes, .ref q_t_seenSums])), (q_t_terms, .inl (cI, 5, .inl (upd t_terms 0 (0 : Int32)))), (q_t_times, .inl (cI, 64, .inl t_times_2)), (q_t_words, .inl (cI, 4, .inl (fun _ => (0 : Int32)))), (q_t_seenTimes, .inl (cI, 64, .inl t_seenTimes)), (q_t_seenSums, .inl (cI, 64, .inl t_seenSums))]) := hD.sub [4, 0, 5, 1, 2, 3] rfl rfl
  try dsimp only at h
  refine lv_aload_n hx hb dX1_restart_29 rfl (lv_at hl 0 rfl) ?_
  refine vc_VV (As := []) (rest := []) (wr := [(q_t_terms, .inl (cI, 5, .inl (upd t_terms 0 (0 : Int32)))), (q_t_times, .inl (cI, 64, .inl t_times_2)), (q_t_words, .inl (cI, 4, .inl (fun _ => (0 : Int32))))]) ⟨hx, hb, hml, hown, hts⟩ (ctX1_seeNothing l D cB cI cJ cZ cR tz q_t q_t_terms q_t_times q_t_words q_t_wordMarks q_t_seenTimes q_t_seenSums a1 (1 : Int32) t_trialCount_1 t_seenCount t_seenSquares t_seenTimes t_seenSums _ h) (cwV 0 hts gX1_restart_X1_seeNothing rfl rfl rfl hdX1_seeNothing ⟨Nat.le_of_ble_eq_true rfl, Nat.le_of_ble_eq_true rfl⟩) hK hP hD hS hA hT [0, 4, 5] [1, 2, 3] rfl rfl rfl rfl (by decide) 0 1 rfl rfl rfl rfl hl.1 (Nat.le_of_ble_eq_true rfl) dX1_restart_30 ⟨Nat.le_of_ble_eq_true rfl, Nat.le_of_ble_eq_true rfl⟩ (fun u9 H locs h hP hD hS => ?_)
  obtain ⟨t_seenCount_3, t_seenSquares_4, t_seenTimes_5, t_seenSums_6⟩ := u9
  have hP : va_P D vwCl ([(q_t, .inr (1, [.int a1, .int (1 : Int32), .int t_trialCount_1, .int t_seenCount_3, .long t_seenSquares_4, .ref q_t_terms, .ref q_t_times, .ref q_t_words, .ref q_t_wordMarks, .ref q_t_seenTimes, .ref q_t_seenSums])), (q_t_terms, .inl (cI, 5, .inl (upd t_terms 0 (0 : Int32)))), (q_t_times, .inl (cI, 64, .inl t_times_2)), (q_t_words, .inl (cI, 4, .inl (fun _ => (0 : Int32)))), (q_t_seenTimes, .inl (cI, 64, .inl t_seenTimes_5)), (q_t_seenSums, .inl (cI, 64, .inl t_seenSums_6))]) H := hP.sub [3, 0, 1, 2, 4, 5] rfl
  have hD : va_D A ([(q_t, .inr (1, [.int a1, .int (1 : Int32), .int t_trialCount_1, .int t_seenCount_3, .long t_seenSquares_4, .ref q_t_terms, .ref q_t_times, .ref q_t_words, .ref q_t_wordMarks, .ref q_t_seenTimes, .ref q_t_seenSums])), (q_t_terms, .inl (cI, 5, .inl (upd t_terms 0 (0 : Int32)))), (q_t_times, .inl (cI, 64, .inl t_times_2)), (q_t_words, .inl (cI, 4, .inl (fun _ => (0 : Int32)))), (q_t_seenTimes, .inl (cI, 64, .inl t_seenTimes_5)), (q_t_seenSums, .inl (cI, 64, .inl t_seenSums_6))]) := hD.sub [3, 0, 1, 2, 4, 5] rfl rfl
  try dsimp only at h
  subst hQ
  exact vr_V (a1, (1 : Int32), t_trialCount_1, t_seenCount_3, t_seenSquares_4, upd t_terms 0 (0 : Int32), t_times_2, fun _ => (0 : Int32), t_seenTimes_5, t_seenSums_6) hx hb hr hlk hP hD hS [0, 1, 2, 3, 4, 5] rfl rfl h dX1_restart_33
theorem mX1_settingCount_1 : Cond.fieldLink RX1 30 "TrialDesk$Desk" "factorCount" "I" ∈ wsX1_settingCount := List.mem_of_getElem? (i := 1) (by decide +kernel)
abbrev rmX1_settingCount : Room := { frames := 0, cells := 0, slots := 0, locals := 0 }
set_option maxHeartbeats 4000000 in
set_option maxRecDepth 100000 in
theorem ctX1_settingCount (l : Launch) (D : va_G) (cB cI cJ cZ cR : ClassId) (tz : Nat) (q_t : Nat) (q_t_terms : Nat) (q_t_times : Nat) (q_t_words : Nat) (q_t_wordMarks : Nat) (q_t_seenTimes : Nat) (q_t_seenSums : Nat) (t_factorCount : Int32) (t_termCount : Int32) (t_trialCount : Int32) (t_seenCount : Int32) (t_seenSquares : Int64) (k : Int32 → Prop) (h : wpX1_settingCount t_factorCount k) : MI l yX1_settingCount wsX1_settingCount rmX1_settingCount D (vTy cB cI cJ cZ cR) tz [.ref q_t] ([(q_t, .inr (1, [.int t_factorCount, .int t_termCount, .int t_trialCount, .int t_seenCount, .long t_seenSquares, .ref q_t_terms, .ref q_t_times, .ref q_t_words, .ref q_t_wordMarks, .ref q_t_seenTimes, .ref q_t_seenSums]))]) (fun (r : Int32) (u : Unit) => k r) (fun (u : Unit) => [(q_t, .inr (1, [.int t_factorCount, .int t_termCount, .int t_trialCount, .int t_seenCount, .long t_seenSquares, .ref q_t_terms, .ref q_t_times, .ref q_t_words, .ref q_t_wordMarks, .ref q_t_seenTimes, .ref q_t_seenSums]))]) 0 0 := by
  refine MI.of (cc := cX1_settingCount) (maxL := 1) (ret := (some .int)) (by decide) rfl (Nat.le_of_ble_eq_true rfl) ?_
  intro p e s m args below meth c A ls Q hQ E
  obtain ⟨hx, hb, hml, hr, hts, hown, hlk, hin, hP, hK, hD, hS, hA, hT, hl⟩ := E
  have hown : s.vm.findClass RX1 = some m.cls := hown
  have hl : lv_has ls 1 [(0, .ref q_t)] := hl
  have iX1 : ∀ w ∈ wsX10, w ∈ wsX1_settingCount := fun _ h => List.mem_cons_of_mem _ (List.mem_append_right _ h)
  unfold wpX1_settingCount at h
  refine lv_iconst (v := 1) hx hb dX1_settingCount_0 (by decide) ?_
  refine lv_aload_n hx hb dX1_settingCount_1 rfl (lv_at hl 0 rfl) ?_
  refine va_get (v := .int t_factorCount) hx hb hts iX1 hown hK hP 0 rfl rfl 0 (by decide) (hts _ mX1_settingCount_1) (fun _ h9 => h9) rfl dX1_settingCount_2 ?_
  refine lv_ishl hx hb dX1_settingCount_5 ?_
  subst hQ
  exact vr_I (v := (1 : Int32) <<< (t_factorCount &&& 31)) () hx hb hr hlk hP hD hS [0] rfl rfl h dX1_settingCount_6
abbrev rmX1_hasNumber : Room := { frames := 1, cells := 0, slots := 0, locals := 20 }
set_option maxHeartbeats 4000000 in
set_option maxRecDepth 100000 in
theorem ctX1_hasNumber (l : Launch) (D : va_G) (cB cI cJ cZ cR : ClassId) (tz : Nat) (q_t : Nat) (q_t_terms : Nat) (q_t_times : Nat) (q_t_words : Nat) (q_t_wordMarks : Nat) (q_t_seenTimes : Nat) (q_t_seenSums : Nat) (t_factorCount : Int32) (t_termCount : Int32) (t_trialCount : Int32) (t_seenCount : Int32) (t_seenSquares : Int64) (a1 : Int32) (k : Int32 → Prop) (h : wpX1_hasNumber t_factorCount a1 k) : MI l yX1_hasNumber wsX1_hasNumber rmX1_hasNumber D (vTy cB cI cJ cZ cR) tz [.ref q_t, .int a1] ([(q_t, .inr (1, [.int t_factorCount, .int t_termCount, .int t_trialCount, .int t_seenCount, .long t_seenSquares, .ref q_t_terms, .ref q_t_times, .ref q_t_words, .ref q_t_wordMarks, .ref q_t_seenTimes, .ref q_t_seenSums]))]) (fun (r : Int32) (u : Unit) => k r) (fun (u : Unit) => [(q_t, .inr (1, [.int t_factorCount, .int t_termCount, .int t_trialCount, .int t_seenCount, .long t_seenSquares, .ref q_t_terms, .ref q_t_times, .ref q_t_words, .ref q_t_wordMarks, .ref q_t_seenTimes, .ref q_t_seenSums]))]) 0 0 := by
  refine MI.of (cc := cX1_hasNumber) (maxL := 2) (ret := (some .boolean)) (by decide) rfl (Nat.le_of_ble_eq_true rfl) ?_
  intro p e s m args below meth c A ls Q hQ E
  obtain ⟨hx, hb, hml, hr, hts, hown, hlk, hin, hP, hK, hD, hS, hA, hT, hl⟩ := E
  have hown : s.vm.findClass RX1 = some m.cls := hown
  have hl : lv_has ls 2 [(0, .ref q_t), (1, .int a1)] := hl
  unfold wpX1_hasNumber at h
  refine lv_iload_n hx hb dX1_hasNumber_0 rfl (lv_at hl 1 rfl) ?_
  obtain ⟨hp_1, hn_1⟩ := h
  refine lv_if_lt (tgt := 16) hx hb dX1_hasNumber_1 (by decide) (fun hc => ?_) (fun hc => ?_)
  · have h := hp_1 hc
    refine lv_iconst (v := 0) hx hb dX1_hasNumber_16 (by decide) ?_
    subst hQ
    exact vr_Z (v := (0 : Int32)) () hx hb hr hlk rfl hP hD hS [0] rfl rfl h dX1_hasNumber_17
  · have h := hn_1 hc
    refine lv_iload_n hx hb dX1_hasNumber_4 rfl (lv_at hl 1 rfl) ?_
    refine lv_aload_n hx hb dX1_hasNumber_5 rfl (lv_at hl 0 rfl) ?_
    refine vc_VI (As := []) (rest := [.int a1]) (wr := []) ⟨hx, hb, hml, hown, hts⟩ (ctX1_settingCount l D cB cI cJ cZ cR tz q_t q_t_terms q_t_times q_t_words q_t_wordMarks q_t_seenTimes q_t_seenSums t_factorCount t_termCount t_trialCount t_seenCount t_seenSquares _ h) (cwV 0 hts gX1_hasNumber_X1_settingCount rfl rfl rfl hdX1_settingCount ⟨Nat.le_of_ble_eq_true rfl, Nat.le_of_ble_eq_true rfl⟩) hK hP hD hS hA hT [0] [] rfl rfl rfl rfl (by decide) 0 1 rfl rfl rfl rfl hl.1 (Nat.le_of_ble_eq_true rfl) dX1_hasNumber_6 ⟨Nat.le_of_ble_eq_true rfl, Nat.le_of_ble_eq_true rfl⟩ (fun r_2 u9 H locs h hP hD hS => ?_)
    have hP : va_P D vwCl ([(q_t, .inr (1, [.int t_factorCount, .int t_termCount, .int t_trialCount, .int t_seenCount, .long t_seenSquares, .ref q_t_terms, .ref q_t_times, .ref q_t_words, .ref q_t_wordMarks, .ref q_t_seenTimes, .ref q_t_seenSums]))]) H := hP.sub [0] rfl
    have hD : va_D A ([(q_t, .inr (1, [.int t_factorCount, .int t_termCount, .int t_trialCount, .int t_seenCount, .long t_seenSquares, .ref q_t_terms, .ref q_t_times, .ref q_t_words, .ref q_t_wordMarks, .ref q_t_seenTimes, .ref q_t_seenSums]))]) := hD.sub [0] rfl rfl
    try dsimp only at h
    obtain ⟨hp_3, hn_3⟩ := h
    refine lv_icmp_ge (tgt := 16) hx hb dX1_hasNumber_9 (by decide) (fun hc => ?_) (fun hc => ?_)
    · have h := hp_3 hc
      refine lv_iconst (v := 0) hx hb dX1_hasNumber_16 (by decide) ?_
      subst hQ
      exact vr_Z (v := (0 : Int32)) () hx hb hr hlk rfl hP hD hS [0] rfl rfl h dX1_hasNumber_17
    · have h := hn_3 hc
      refine lv_iconst (v := 1) hx hb dX1_hasNumber_12 (by decide) ?_
      refine lv_goto (tgt := 17) hx hb dX1_hasNumber_13 (by decide) ?_
      subst hQ
      exact vr_Z (v := (1 : Int32)) () hx hb hr hlk rfl hP hD hS [0] rfl rfl h dX1_hasNumber_17
theorem mX1_hasTerm_1 : Cond.fieldLink RX1 34 "TrialDesk$Desk" "termCount" "I" ∈ wsX1_hasTerm := List.mem_of_getElem? (i := 1) (by decide +kernel)
theorem mX1_hasTerm_2 : Cond.fieldLink RX1 9 "TrialDesk$Desk" "terms" "[I" ∈ wsX1_hasTerm := List.mem_of_getElem? (i := 2) (by decide +kernel)
abbrev rmX1_hasTerm : Room := { frames := 0, cells := 0, slots := 0, locals := 0 }
set_option maxHeartbeats 4000000 in
set_option maxRecDepth 100000 in
theorem ctX1_hasTerm (l : Launch) (D : va_G) (cB cI cJ cZ cR : ClassId) (tz : Nat) (q_t : Nat) (q_t_terms : Nat) (q_t_times : Nat) (q_t_words : Nat) (q_t_wordMarks : Nat) (q_t_seenTimes : Nat) (q_t_seenSums : Nat) (t_factorCount : Int32) (t_termCount : Int32) (t_trialCount : Int32) (t_seenCount : Int32) (t_seenSquares : Int64) (t_terms : (Nat → Int32)) (a1 : Int32) (k : Int32 → Prop) (h : wpX1_hasTerm t_termCount t_terms a1 k) : MI l yX1_hasTerm wsX1_hasTerm rmX1_hasTerm D (vTy cB cI cJ cZ cR) tz [.ref q_t, .int a1] ([(q_t, .inr (1, [.int t_factorCount, .int t_termCount, .int t_trialCount, .int t_seenCount, .long t_seenSquares, .ref q_t_terms, .ref q_t_times, .ref q_t_words, .ref q_t_wordMarks, .ref q_t_seenTimes, .ref q_t_seenSums])), (q_t_terms, .inl (cI, 5, .inl t_terms))]) (fun (r : Int32) (u : Unit) => k r) (fun (u : Unit) => [(q_t, .inr (1, [.int t_factorCount, .int t_termCount, .int t_trialCount, .int t_seenCount, .long t_seenSquares, .ref q_t_terms, .ref q_t_times, .ref q_t_words, .ref q_t_wordMarks, .ref q_t_seenTimes, .ref q_t_seenSums])), (q_t_terms, .inl (cI, 5, .inl t_terms))]) 0 0 := by
  refine MI.of (cc := cX1_hasTerm) (maxL := 3) (ret := (some .boolean)) (by decide) rfl (Nat.le_of_ble_eq_true rfl) ?_
  intro p e s m args below meth c A ls Q hQ E
  obtain ⟨hx, hb, hml, hr, hts, hown, hlk, hin, hP, hK, hD, hS, hA, hT, hl⟩ := E
  have hown : s.vm.findClass RX1 = some m.cls := hown
  have hl : lv_has ls 3 [(0, .ref q_t), (1, .int a1)] := hl
  have iX1 : ∀ w ∈ wsX10, w ∈ wsX1_hasTerm := fun _ h => List.mem_cons_of_mem _ (List.mem_append_right _ h)
  unfold wpX1_hasTerm at h
  refine lv_iconst (v := 0) hx hb dX1_hasTerm_0 (by decide) ?_
  refine lv_istore_n (lv' := [(2, .int (0 : Int32)), (0, .ref q_t), (1, .int a1)]) hx hb dX1_hasTerm_1 rfl hl (by decide) rfl (fun ls hl => ?_)
  have hL_2 : ∀ (n_2 : Nat) (x2_1 : Int32) (H : Heap) (locs : List Loc) (ls : Array Slot), wl (wbX1_hasTerm_2 t_termCount t_terms a1 k) n_2 x2_1 → va_P D vwCl ([(q_t, .inr (1, [.int t_factorCount, .int t_termCount, .int t_trialCount, .int t_seenCount, .long t_seenSquares, .ref q_t_terms, .ref q_t_times, .ref q_t_words, .ref q_t_wordMarks, .ref q_t_seenTimes, .ref q_t_seenSums])), (q_t_terms, .inl (cI, 5, .inl t_terms))]) H → va_D A ([(q_t, .inr (1, [.int t_factorCount, .int t_termCount, .int t_trialCount, .int t_seenCount, .long t_seenSquares, .ref q_t_terms, .ref q_t_times, .ref q_t_words, .ref q_t_wordMarks, .ref q_t_seenTimes, .ref q_t_seenSums])), (q_t_terms, .inl (cI, 5, .inl t_terms))]) → va_S A s.heap H locs → lv_has ls 3 [(0, .ref q_t), (1, .int a1), (2, .int x2_1)] → W p l e rmX1_hasTerm s m args below meth c H locs 0 0 Q (F0 m 2 ls []) := by
    intro n_2
    induction n_2 with
    | zero => intro x2_1 H locs ls h; exact h.elim
    | succ n_2 ih_2 =>
      intro x2_1 H locs ls h hP hD hS hl
      rw [wl, wbX1_hasTerm_2] at h
      refine lv_iload_n hx hb dX1_hasTerm_2 rfl (lv_at hl 2 rfl) ?_
      refine lv_aload_n hx hb dX1_hasTerm_3 rfl (lv_at hl 0 rfl) ?_
      refine va_get (v := .int t_termCount) hx hb hts iX1 hown hK hP 0 rfl rfl 1 (by decide) (hts _ mX1_hasTerm_1) (fun _ h9 => h9) rfl dX1_hasTerm_4 ?_
      obtain ⟨hp_2, hn_2⟩ := h
      refine lv_icmp_ge (tgt := 28) hx hb dX1_hasTerm_7 (by decide) (fun hc => ?_) (fun hc => ?_)
      · have h := hp_2 hc
        refine lv_iconst (v := 0) hx hb dX1_hasTerm_28 (by decide) ?_
        subst hQ
        exact vr_Z (v := (0 : Int32)) () hx hb hr hlk rfl hP hD hS [0, 1] rfl rfl h dX1_hasTerm_29
      · have h := hn_2 hc
        refine lv_aload_n hx hb dX1_hasTerm_10 rfl (lv_at hl 0 rfl) ?_
        refine va_get (v := .ref q_t_terms) hx hb hts iX1 hown hK hP 0 rfl rfl 5 (by decide) (hts _ mX1_hasTerm_2) (fun _ h9 => h9) rfl dX1_hasTerm_11 ?_
        refine lv_iload_n hx hb dX1_hasTerm_14 rfl (lv_at hl 2 rfl) ?_
        obtain ⟨hi_3, h⟩ := h
        refine vi_ald hx hb hK hP 1 1 rfl rfl hi_3 rfl dX1_hasTerm_15 ?_
        refine lv_iload_n hx hb dX1_hasTerm_16 rfl (lv_at hl 1 rfl) ?_
        obtain ⟨hp_4, hn_4⟩ := h
        refine lv_icmp_ne (tgt := 22) hx hb dX1_hasTerm_17 (by decide) (fun hc => ?_) (fun hc => ?_)
        · have h := hn_4 hc
          refine lv_iinc (v := x2_1 + (1 : Int32)) (lv' := [(2, .int (x2_1 + (1 : Int32))), (0, .ref q_t), (1, .int a1)]) hx hb dX1_hasTerm_22 hl (k := 2) rfl rfl (by decide) rfl (fun ls hl => ?_)
          refine lv_goto (tgt := 2) hx hb dX1_hasTerm_25 (by decide) ?_
          exact ih_2 (x2_1 + (1 : Int32)) _ _ _ h hP hD hS (lv_sub hl [1, 2, 0] rfl)
        · have h := hp_4 hc
          refine lv_iconst (v := 1) hx hb dX1_hasTerm_20 (by decide) ?_
          subst hQ
          exact vr_Z (v := (1 : Int32)) () hx hb hr hlk rfl hP hD hS [0, 1] rfl rfl h dX1_hasTerm_21
  obtain ⟨n_2, h⟩ := h
  exact hL_2 n_2 (0 : Int32) _ _ _ h hP hD hS (lv_sub hl [1, 2, 0] rfl)
theorem mX1_dropTerm_1 : Cond.fieldLink RX1 34 "TrialDesk$Desk" "termCount" "I" ∈ wsX1_dropTerm := List.mem_of_getElem? (i := 1) (by decide +kernel)
theorem mX1_dropTerm_2 : Cond.fieldLink RX1 9 "TrialDesk$Desk" "terms" "[I" ∈ wsX1_dropTerm := List.mem_of_getElem? (i := 2) (by decide +kernel)
abbrev rmX1_dropTerm : Room := { frames := 0, cells := 0, slots := 0, locals := 0 }
set_option maxHeartbeats 4000000 in
set_option maxRecDepth 100000 in
theorem ctX1_dropTerm (l : Launch) (D : va_G) (cB cI cJ cZ cR : ClassId) (tz : Nat) (q_t : Nat) (q_t_terms : Nat) (q_t_times : Nat) (q_t_words : Nat) (q_t_wordMarks : Nat) (q_t_seenTimes : Nat) (q_t_seenSums : Nat) (t_factorCount : Int32) (t_termCount : Int32) (t_trialCount : Int32) (t_seenCount : Int32) (t_seenSquares : Int64) (t_terms : (Nat → Int32)) (a1 : Int32) (k : Int32 → (Nat → Int32) → Prop) (h : wpX1_dropTerm t_termCount t_terms a1 k) : MV l yX1_dropTerm wsX1_dropTerm rmX1_dropTerm D (vTy cB cI cJ cZ cR) tz [.ref q_t, .int a1] ([(q_t, .inr (1, [.int t_factorCount, .int t_termCount, .int t_trialCount, .int t_seenCount, .long t_seenSquares, .ref q_t_terms, .ref q_t_times, .ref q_t_words, .ref q_t_wordMarks, .ref q_t_seenTimes, .ref q_t_seenSums])), (q_t_terms, .inl (cI, 5, .inl t_terms))]) (fun (u : Int32 × (Nat → Int32)) => k u.1 u.2) (fun (u : Int32 × (Nat → Int32)) => [(q_t, .inr (1, [.int t_factorCount, .int (u.1), .int t_trialCount, .int t_seenCount, .long t_seenSquares, .ref q_t_terms, .ref q_t_times, .ref q_t_words, .ref q_t_wordMarks, .ref q_t_seenTimes, .ref q_t_seenSums])), (q_t_terms, .inl (cI, 5, .inl (u.2)))]) 0 0 := by
  refine MV.of (cc := cX1_dropTerm) (maxL := 3) (ret := none) (by decide) rfl (Nat.le_of_ble_eq_true rfl) ?_
  intro p e s m args below meth c A ls Q hQ E
  obtain ⟨hx, hb, hml, hr, hts, hown, hlk, hin, hP, hK, hD, hS, hA, hT, hl⟩ := E
  have hown : s.vm.findClass RX1 = some m.cls := hown
  have hl : lv_has ls 3 [(0, .ref q_t), (1, .int a1)] := hl
  have iX1 : ∀ w ∈ wsX10, w ∈ wsX1_dropTerm := fun _ h => List.mem_cons_of_mem _ (List.mem_append_right _ h)
  unfold wpX1_dropTerm at h
  refine lv_iload_n hx hb dX1_dropTerm_0 rfl (lv_at hl 1 rfl) ?_
  refine lv_iconst (v := 1) hx hb dX1_dropTerm_1 (by decide) ?_
  refine lv_iadd hx hb dX1_dropTerm_2 ?_
  refine lv_istore_n (lv' := [(2, .int (a1 + (1 : Int32))), (0, .ref q_t), (1, .int a1)]) hx hb dX1_dropTerm_3 rfl hl (by decide) rfl (fun ls hl => ?_)
  have hL_4 : ∀ (n_4 : Nat) (x2_1 : Int32) (t_terms_2 : (Nat → Int32)) (H : Heap) (locs : List Loc) (ls : Array Slot), wl (wbX1_dropTerm_4 t_termCount k) n_4 (x2_1, t_terms_2) → va_P D vwCl ([(q_t, .inr (1, [.int t_factorCount, .int t_termCount, .int t_trialCount, .int t_seenCount, .long t_seenSquares, .ref q_t_terms, .ref q_t_times, .ref q_t_words, .ref q_t_wordMarks, .ref q_t_seenTimes, .ref q_t_seenSums])), (q_t_terms, .inl (cI, 5, .inl t_terms_2))]) H → va_D A ([(q_t, .inr (1, [.int t_factorCount, .int t_termCount, .int t_trialCount, .int t_seenCount, .long t_seenSquares, .ref q_t_terms, .ref q_t_times, .ref q_t_words, .ref q_t_wordMarks, .ref q_t_seenTimes, .ref q_t_seenSums])), (q_t_terms, .inl (cI, 5, .inl t_terms_2))]) → va_S A s.heap H locs → lv_has ls 3 [(0, .ref q_t), (2, .int x2_1)] → W p l e rmX1_dropTerm s m args below meth c H locs 0 0 Q (F0 m 4 ls []) := by
    intro n_4
    induction n_4 with
    | zero => intro x2_1 t_terms_2 H locs ls h; exact h.elim
    | succ n_4 ih_4 =>
      intro x2_1 t_terms_2 H locs ls h hP hD hS hl
      rw [wl, wbX1_dropTerm_4] at h
      refine lv_iload_n hx hb dX1_dropTerm_4 rfl (lv_at hl 1 rfl) ?_
      refine lv_aload_n hx hb dX1_dropTerm_5 rfl (lv_at hl 0 rfl) ?_
      refine va_get (v := .int t_termCount) hx hb hts iX1 hown hK hP 0 rfl rfl 1 (by decide) (hts _ mX1_dropTerm_1) (fun _ h9 => h9) rfl dX1_dropTerm_6 ?_
      obtain ⟨hp_3, hn_3⟩ := h
      refine lv_icmp_ge (tgt := 32) hx hb dX1_dropTerm_9 (by decide) (fun hc => ?_) (fun hc => ?_)
      · have h := hp_3 hc
        refine lv_aload_n hx hb dX1_dropTerm_32 rfl (lv_at hl 0 rfl) ?_
        refine lv_dup hx hb dX1_dropTerm_33 rfl ?_
        refine va_get (v := .int t_termCount) hx hb hts iX1 hown hK hP 0 rfl rfl 1 (by decide) (hts _ mX1_dropTerm_1) (fun _ h9 => h9) rfl dX1_dropTerm_34 ?_
        refine lv_iconst (v := 1) hx hb dX1_dropTerm_37 (by decide) ?_
        refine lv_isub hx hb dX1_dropTerm_38 ?_
        refine va_put (v := .int (t_termCount - (1 : Int32))) (ty := .int) hx hb hts iX1 tyX1 tyX1_ok nmX1 hown hK hP hD hS 0 rfl rfl 1 (by decide) (hts _ mX1_dropTerm_1) (fun _ h9 => h9) rfl (tyX1_ok 1 (by decide)) rfl rfl (Nat.le_of_ble_eq_true rfl) dX1_dropTerm_39 (fun H locs hP hD hS => ?_)
        have hP : va_P D vwCl ([(q_t, .inr (1, [.int t_factorCount, .int (t_termCount - (1 : Int32)), .int t_trialCount, .int t_seenCount, .long t_seenSquares, .ref q_t_terms, .ref q_t_times, .ref q_t_words, .ref q_t_wordMarks, .ref q_t_seenTimes, .ref q_t_seenSums])), (q_t_terms, .inl (cI, 5, .inl t_terms_2))]) H := hP
        have hD : va_D A ([(q_t, .inr (1, [.int t_factorCount, .int (t_termCount - (1 : Int32)), .int t_trialCount, .int t_seenCount, .long t_seenSquares, .ref q_t_terms, .ref q_t_times, .ref q_t_words, .ref q_t_wordMarks, .ref q_t_seenTimes, .ref q_t_seenSums])), (q_t_terms, .inl (cI, 5, .inl t_terms_2))]) := hD
        subst hQ
        exact vr_V (t_termCount - (1 : Int32), t_terms_2) hx hb hr hlk hP hD hS [0, 1] rfl rfl h dX1_dropTerm_42
      · have h := hn_3 hc
        refine lv_aload_n hx hb dX1_dropTerm_12 rfl (lv_at hl 0 rfl) ?_
        refine va_get (v := .ref q_t_terms) hx hb hts iX1 hown hK hP 0 rfl rfl 5 (by decide) (hts _ mX1_dropTerm_2) (fun _ h9 => h9) rfl dX1_dropTerm_13 ?_
        refine lv_iload_n hx hb dX1_dropTerm_16 rfl (lv_at hl 1 rfl) ?_
        refine lv_iconst (v := 1) hx hb dX1_dropTerm_17 (by decide) ?_
        refine lv_isub hx hb dX1_dropTerm_18 ?_
        refine lv_aload_n hx hb dX1_dropTerm_19 rfl (lv_at hl 0 rfl) ?_
        refine va_get (v := .ref q_t_terms) hx hb hts iX1 hown hK hP 0 rfl rfl 5 (by decide) (hts _ mX1_dropTerm_2) (fun _ h9 => h9) rfl dX1_dropTerm_20 ?_
        refine lv_iload_n hx hb dX1_dropTerm_23 rfl (lv_at hl 1 rfl) ?_
        obtain ⟨hi_4, h⟩ := h
        refine vi_ald hx hb hK hP 1 1 rfl rfl hi_4 rfl dX1_dropTerm_24 ?_
        obtain ⟨hi_5, h⟩ := h
        refine vi_ast (x := t_terms_2 (x2_1.toNatClampNeg)) hx hb hK hP hD hS 1 1 rfl rfl hi_5 rfl dX1_dropTerm_25 (fun H locs hP hD hS => ?_)
        have hP : va_P D vwCl ([(q_t, .inr (1, [.int t_factorCount, .int t_termCount, .int t_trialCount, .int t_seenCount, .long t_seenSquares, .ref q_t_terms, .ref q_t_times, .ref q_t_words, .ref q_t_wordMarks, .ref q_t_seenTimes, .ref q_t_seenSums])), (q_t_terms, .inl (cI, 5, .inl (upd t_terms_2 ((x2_1 - (1 : Int32)).toNatClampNeg) (t_terms_2 (x2_1.toNatClampNeg)))))]) H := hP
        have hD : va_D A ([(q_t, .inr (1, [.int t_factorCount, .int t_termCount, .int t_trialCount, .int t_seenCount, .long t_seenSquares, .ref q_t_terms, .ref q_t_times, .ref q_t_words, .ref q_t_wordMarks, .ref q_t_seenTimes, .ref q_t_seenSums])), (q_t_terms, .inl (cI, 5, .inl (upd t_terms_2 ((x2_1 - (1 : Int32)).toNatClampNeg) (t_terms_2 (x2_1.toNatClampNeg)))))]) := hD
        refine lv_iinc (v := x2_1 + (1 : Int32)) (lv' := [(2, .int (x2_1 + (1 : Int32))), (0, .ref q_t)]) hx hb dX1_dropTerm_26 hl (k := 1) rfl rfl (by decide) rfl (fun ls hl => ?_)
        refine lv_goto (tgt := 4) hx hb dX1_dropTerm_29 (by decide) ?_
        exact ih_4 (x2_1 + (1 : Int32)) (upd t_terms_2 ((x2_1 - (1 : Int32)).toNatClampNeg) (t_terms_2 (x2_1.toNatClampNeg))) _ _ _ h hP hD hS (lv_sub hl [1, 0] rfl)
  obtain ⟨n_4, h⟩ := h
  exact hL_4 n_4 (a1 + (1 : Int32)) t_terms _ _ _ h hP hD hS (lv_sub hl [1, 0] rfl)
theorem mX1_tryTimes_1 : Cond.fieldLink RX1 37 "TrialDesk$Desk" "trialCount" "I" ∈ wsX1_tryTimes := List.mem_of_getElem? (i := 1) (by decide +kernel)
theorem mX1_tryTimes_2 : Cond.fieldLink RX1 15 "TrialDesk$Desk" "times" "[I" ∈ wsX1_tryTimes := List.mem_of_getElem? (i := 2) (by decide +kernel)
abbrev rmX1_tryTimes : Room := { frames := 0, cells := 0, slots := 0, locals := 0 }
set_option maxHeartbeats 4000000 in
set_option maxRecDepth 100000 in
theorem ctX1_tryTimes (l : Launch) (D : va_G) (cB cI cJ cZ cR : ClassId) (tz : Nat) (q_t : Nat) (q_t_terms : Nat) (q_t_times : Nat) (q_t_words : Nat) (q_t_wordMarks : Nat) (q_t_seenTimes : Nat) (q_t_seenSums : Nat) (t_factorCount : Int32) (t_termCount : Int32) (t_trialCount : Int32) (t_seenCount : Int32) (t_seenSquares : Int64) (t_times : (Nat → Int32)) (a1 : Int32) (a2 : Int32) (k : Int32 → (Nat → Int32) → Prop) (h : wpX1_tryTimes t_trialCount t_times a1 a2 k) : MV l yX1_tryTimes wsX1_tryTimes rmX1_tryTimes D (vTy cB cI cJ cZ cR) tz [.ref q_t, .int a1, .int a2] ([(q_t, .inr (1, [.int t_factorCount, .int t_termCount, .int t_trialCount, .int t_seenCount, .long t_seenSquares, .ref q_t_terms, .ref q_t_times, .ref q_t_words, .ref q_t_wordMarks, .ref q_t_seenTimes, .ref q_t_seenSums])), (q_t_times, .inl (cI, 64, .inl t_times))]) (fun (u : Int32 × (Nat → Int32)) => k u.1 u.2) (fun (u : Int32 × (Nat → Int32)) => [(q_t, .inr (1, [.int t_factorCount, .int t_termCount, .int (u.1), .int t_seenCount, .long t_seenSquares, .ref q_t_terms, .ref q_t_times, .ref q_t_words, .ref q_t_wordMarks, .ref q_t_seenTimes, .ref q_t_seenSums])), (q_t_times, .inl (cI, 64, .inl (u.2)))]) 0 0 := by
  refine MV.of (cc := cX1_tryTimes) (maxL := 3) (ret := none) (by decide) rfl (Nat.le_of_ble_eq_true rfl) ?_
  intro p e s m args below meth c A ls Q hQ E
  obtain ⟨hx, hb, hml, hr, hts, hown, hlk, hin, hP, hK, hD, hS, hA, hT, hl⟩ := E
  have hown : s.vm.findClass RX1 = some m.cls := hown
  have hl : lv_has ls 3 [(0, .ref q_t), (1, .int a1), (2, .int a2)] := hl
  have iX1 : ∀ w ∈ wsX10, w ∈ wsX1_tryTimes := fun _ h => List.mem_cons_of_mem _ (List.mem_append_right _ h)
  unfold wpX1_tryTimes at h
  refine lv_aload_n hx hb dX1_tryTimes_0 rfl (lv_at hl 0 rfl) ?_
  refine lv_dup hx hb dX1_tryTimes_1 rfl ?_
  refine va_get (v := .int t_trialCount) hx hb hts iX1 hown hK hP 0 rfl rfl 2 (by decide) (hts _ mX1_tryTimes_1) (fun _ h9 => h9) rfl dX1_tryTimes_2 ?_
  refine lv_iload_n hx hb dX1_tryTimes_5 rfl (lv_at hl 2 rfl) ?_
  refine lv_aload_n hx hb dX1_tryTimes_6 rfl (lv_at hl 0 rfl) ?_
  refine va_get (v := .ref q_t_times) hx hb hts iX1 hown hK hP 0 rfl rfl 6 (by decide) (hts _ mX1_tryTimes_2) (fun _ h9 => h9) rfl dX1_tryTimes_7 ?_
  refine lv_iload_n hx hb dX1_tryTimes_10 rfl (lv_at hl 1 rfl) ?_
  obtain ⟨hi_1, h⟩ := h
  refine vi_ald hx hb hK hP 1 1 rfl rfl hi_1 rfl dX1_tryTimes_11 ?_
  refine lv_isub hx hb dX1_tryTimes_12 ?_
  refine lv_iadd hx hb dX1_tryTimes_13 ?_
  refine va_put (v := .int (t_trialCount + (a2 - (t_times (a1.toNatClampNeg))))) (ty := .int) hx hb hts iX1 tyX1 tyX1_ok nmX1 hown hK hP hD hS 0 rfl rfl 2 (by decide) (hts _ mX1_tryTimes_1) (fun _ h9 => h9) rfl (tyX1_ok 2 (by decide)) rfl rfl (Nat.le_of_ble_eq_true rfl) dX1_tryTimes_14 (fun H locs hP hD hS => ?_)
  have hP : va_P D vwCl ([(q_t, .inr (1, [.int t_factorCount, .int t_termCount, .int (t_trialCount + (a2 - (t_times (a1.toNatClampNeg)))), .int t_seenCount, .long t_seenSquares, .ref q_t_terms, .ref q_t_times, .ref q_t_words, .ref q_t_wordMarks, .ref q_t_seenTimes, .ref q_t_seenSums])), (q_t_times, .inl (cI, 64, .inl t_times))]) H := hP
  have hD : va_D A ([(q_t, .inr (1, [.int t_factorCount, .int t_termCount, .int (t_trialCount + (a2 - (t_times (a1.toNatClampNeg)))), .int t_seenCount, .long t_seenSquares, .ref q_t_terms, .ref q_t_times, .ref q_t_words, .ref q_t_wordMarks, .ref q_t_seenTimes, .ref q_t_seenSums])), (q_t_times, .inl (cI, 64, .inl t_times))]) := hD
  refine lv_aload_n hx hb dX1_tryTimes_17 rfl (lv_at hl 0 rfl) ?_
  refine va_get (v := .ref q_t_times) hx hb hts iX1 hown hK hP 0 rfl rfl 6 (by decide) (hts _ mX1_tryTimes_2) (fun _ h9 => h9) rfl dX1_tryTimes_18 ?_
  refine lv_iload_n hx hb dX1_tryTimes_21 rfl (lv_at hl 1 rfl) ?_
  refine lv_iload_n hx hb dX1_tryTimes_22 rfl (lv_at hl 2 rfl) ?_
  obtain ⟨hi_2, h⟩ := h
  refine vi_ast (x := a2) hx hb hK hP hD hS 1 1 rfl rfl hi_2 rfl dX1_tryTimes_23 (fun H locs hP hD hS => ?_)
  have hP : va_P D vwCl ([(q_t, .inr (1, [.int t_factorCount, .int t_termCount, .int (t_trialCount + (a2 - (t_times (a1.toNatClampNeg)))), .int t_seenCount, .long t_seenSquares, .ref q_t_terms, .ref q_t_times, .ref q_t_words, .ref q_t_wordMarks, .ref q_t_seenTimes, .ref q_t_seenSums])), (q_t_times, .inl (cI, 64, .inl (upd t_times (a1.toNatClampNeg) a2)))]) H := hP
  have hD : va_D A ([(q_t, .inr (1, [.int t_factorCount, .int t_termCount, .int (t_trialCount + (a2 - (t_times (a1.toNatClampNeg)))), .int t_seenCount, .long t_seenSquares, .ref q_t_terms, .ref q_t_times, .ref q_t_words, .ref q_t_wordMarks, .ref q_t_seenTimes, .ref q_t_seenSums])), (q_t_times, .inl (cI, 64, .inl (upd t_times (a1.toNatClampNeg) a2)))]) := hD
  subst hQ
  exact vr_V (t_trialCount + (a2 - (t_times (a1.toNatClampNeg))), upd t_times (a1.toNatClampNeg) a2) hx hb hr hlk hP hD hS [0, 1] rfl rfl h dX1_tryTimes_24
abbrev rmX1_takePlan : Room := { frames := 1, cells := 0, slots := 0, locals := 22 }
set_option maxHeartbeats 4000000 in
set_option maxRecDepth 100000 in
theorem ctX1_takePlan (l : Launch) (D : va_G) (cB cI cJ cZ cR : ClassId) (tz : Nat) (q_t : Nat) (q_t_terms : Nat) (q_t_times : Nat) (q_t_words : Nat) (q_t_wordMarks : Nat) (q_t_seenTimes : Nat) (q_t_seenSums : Nat) (q_p1 : Nat) (t_factorCount : Int32) (t_termCount : Int32) (t_trialCount : Int32) (t_seenCount : Int32) (t_seenSquares : Int64) (t_times : (Nat → Int32)) (p1 : (Nat → Int32)) (k : Int32 → (Nat → Int32) → Prop) (h : wpX1_takePlan t_trialCount t_times p1 k) : MV l yX1_takePlan wsX1_takePlan rmX1_takePlan D (vTy cB cI cJ cZ cR) tz [.ref q_t, .ref q_p1] ([(q_t, .inr (1, [.int t_factorCount, .int t_termCount, .int t_trialCount, .int t_seenCount, .long t_seenSquares, .ref q_t_terms, .ref q_t_times, .ref q_t_words, .ref q_t_wordMarks, .ref q_t_seenTimes, .ref q_t_seenSums])), (q_t_times, .inl (cI, 64, .inl t_times)), (q_p1, .inl (cI, 64, .inl p1))]) (fun (u : Int32 × (Nat → Int32)) => k u.1 u.2) (fun (u : Int32 × (Nat → Int32)) => [(q_t, .inr (1, [.int t_factorCount, .int t_termCount, .int (u.1), .int t_seenCount, .long t_seenSquares, .ref q_t_terms, .ref q_t_times, .ref q_t_words, .ref q_t_wordMarks, .ref q_t_seenTimes, .ref q_t_seenSums])), (q_t_times, .inl (cI, 64, .inl (u.2))), (q_p1, .inl (cI, 64, .inl p1))]) 0 0 := by
  refine MV.of (cc := cX1_takePlan) (maxL := 3) (ret := none) (by decide) rfl (Nat.le_of_ble_eq_true rfl) ?_
  intro p e s m args below meth c A ls Q hQ E
  obtain ⟨hx, hb, hml, hr, hts, hown, hlk, hin, hP, hK, hD, hS, hA, hT, hl⟩ := E
  have hown : s.vm.findClass RX1 = some m.cls := hown
  have hl : lv_has ls 3 [(0, .ref q_t), (1, .ref q_p1)] := hl
  unfold wpX1_takePlan at h
  refine lv_iconst (v := 0) hx hb dX1_takePlan_0 (by decide) ?_
  refine lv_istore_n (lv' := [(2, .int (0 : Int32)), (0, .ref q_t), (1, .ref q_p1)]) hx hb dX1_takePlan_1 rfl hl (by decide) rfl (fun ls hl => ?_)
  have hL_2 : ∀ (n_2 : Nat) (x2_1 : Int32) (t_trialCount_2 : Int32) (t_times_3 : (Nat → Int32)) (H : Heap) (locs : List Loc) (ls : Array Slot), wl (wbX1_takePlan_2 p1 k) n_2 (x2_1, t_trialCount_2, t_times_3) → va_P D vwCl ([(q_t, .inr (1, [.int t_factorCount, .int t_termCount, .int t_trialCount_2, .int t_seenCount, .long t_seenSquares, .ref q_t_terms, .ref q_t_times, .ref q_t_words, .ref q_t_wordMarks, .ref q_t_seenTimes, .ref q_t_seenSums])), (q_t_times, .inl (cI, 64, .inl t_times_3)), (q_p1, .inl (cI, 64, .inl p1))]) H → va_D A ([(q_t, .inr (1, [.int t_factorCount, .int t_termCount, .int t_trialCount_2, .int t_seenCount, .long t_seenSquares, .ref q_t_terms, .ref q_t_times, .ref q_t_words, .ref q_t_wordMarks, .ref q_t_seenTimes, .ref q_t_seenSums])), (q_t_times, .inl (cI, 64, .inl t_times_3)), (q_p1, .inl (cI, 64, .inl p1))]) → va_S A s.heap H locs → lv_has ls 3 [(0, .ref q_t), (1, .ref q_p1), (2, .int x2_1)] → W p l e rmX1_takePlan s m args below meth c H locs 0 0 Q (F0 m 2 ls []) := by
    intro n_2
    induction n_2 with
    | zero => intro x2_1 t_trialCount_2 t_times_3 H locs ls h; exact h.elim
    | succ n_2 ih_2 =>
      intro x2_1 t_trialCount_2 t_times_3 H locs ls h hP hD hS hl
      rw [wl, wbX1_takePlan_2] at h
      refine lv_iload_n hx hb dX1_takePlan_2 rfl (lv_at hl 2 rfl) ?_
      refine lv_bipush (v := 64) hx hb dX1_takePlan_3 (by decide) ?_
      obtain ⟨hp_4, hn_4⟩ := h
      refine lv_icmp_ge (tgt := 22) hx hb dX1_takePlan_5 (by decide) (fun hc => ?_) (fun hc => ?_)
      · have h := hp_4 hc
        subst hQ
        exact vr_V (t_trialCount_2, t_times_3) hx hb hr hlk hP hD hS [0, 1, 2] rfl rfl h dX1_takePlan_22
      · have h := hn_4 hc
        refine lv_aload_n hx hb dX1_takePlan_8 rfl (lv_at hl 0 rfl) ?_
        refine lv_iload_n hx hb dX1_takePlan_9 rfl (lv_at hl 2 rfl) ?_
        refine lv_aload_n hx hb dX1_takePlan_10 rfl (lv_at hl 1 rfl) ?_
        refine lv_iload_n hx hb dX1_takePlan_11 rfl (lv_at hl 2 rfl) ?_
        obtain ⟨hi_5, h⟩ := h
        refine vi_ald hx hb hK hP 2 1 rfl rfl hi_5 rfl dX1_takePlan_12 ?_
        refine vc_VV (As := [.int x2_1, .int (p1 (x2_1.toNatClampNeg))]) (rest := []) (wr := [(q_p1, .inl (cI, 64, .inl p1))]) ⟨hx, hb, hml, hown, hts⟩ (ctX1_tryTimes l D cB cI cJ cZ cR tz q_t q_t_terms q_t_times q_t_words q_t_wordMarks q_t_seenTimes q_t_seenSums t_factorCount t_termCount t_trialCount_2 t_seenCount t_seenSquares t_times_3 x2_1 (p1 (x2_1.toNatClampNeg)) _ h) (cwV 2 hts gX1_takePlan_X1_tryTimes rfl rfl rfl hdX1_tryTimes ⟨Nat.le_of_ble_eq_true rfl, Nat.le_of_ble_eq_true rfl⟩) hK hP hD hS hA hT [0, 1] [2] rfl rfl rfl rfl (by decide) 0 1 rfl rfl rfl rfl hl.1 (Nat.le_of_ble_eq_true rfl) dX1_takePlan_13 ⟨Nat.le_of_ble_eq_true rfl, Nat.le_of_ble_eq_true rfl⟩ (fun u9 H locs h hP hD hS => ?_)
        obtain ⟨t_trialCount_6, t_times_7⟩ := u9
        have hP : va_P D vwCl ([(q_t, .inr (1, [.int t_factorCount, .int t_termCount, .int t_trialCount_6, .int t_seenCount, .long t_seenSquares, .ref q_t_terms, .ref q_t_times, .ref q_t_words, .ref q_t_wordMarks, .ref q_t_seenTimes, .ref q_t_seenSums])), (q_t_times, .inl (cI, 64, .inl t_times_7)), (q_p1, .inl (cI, 64, .inl p1))]) H := hP.sub [1, 2, 0] rfl
        have hD : va_D A ([(q_t, .inr (1, [.int t_factorCount, .int t_termCount, .int t_trialCount_6, .int t_seenCount, .long t_seenSquares, .ref q_t_terms, .ref q_t_times, .ref q_t_words, .ref q_t_wordMarks, .ref q_t_seenTimes, .ref q_t_seenSums])), (q_t_times, .inl (cI, 64, .inl t_times_7)), (q_p1, .inl (cI, 64, .inl p1))]) := hD.sub [1, 2, 0] rfl rfl
        try dsimp only at h
        refine lv_iinc (v := x2_1 + (1 : Int32)) (lv' := [(2, .int (x2_1 + (1 : Int32))), (0, .ref q_t), (1, .ref q_p1)]) hx hb dX1_takePlan_16 hl (k := 2) rfl rfl (by decide) rfl (fun ls hl => ?_)
        refine lv_goto (tgt := 2) hx hb dX1_takePlan_19 (by decide) ?_
        exact ih_2 (x2_1 + (1 : Int32)) t_trialCount_6 t_times_7 _ _ _ h hP hD hS (lv_sub hl [1, 2, 0] rfl)
  obtain ⟨n_2, h⟩ := h
  exact hL_2 n_2 (0 : Int32) t_trialCount t_times _ _ _ h hP hD hS (lv_sub hl [1, 2, 0] rfl)
theorem mX1_triedSettings_1 : Cond.fieldLink RX1 15 "TrialDesk$Desk" "times" "[I" ∈ wsX1_triedSettings := List.mem_of_getElem? (i := 1) (by decide +kernel)
abbrev rmX1_triedSettings : Room := { frames := 0, cells := 0, slots := 0, locals := 0 }
set_option maxHeartbeats 4000000 in
set_option maxRecDepth 100000 in
theorem ctX1_triedSettings (l : Launch) (D : va_G) (cB cI cJ cZ cR : ClassId) (tz : Nat) (q_t : Nat) (q_t_terms : Nat) (q_t_times : Nat) (q_t_words : Nat) (q_t_wordMarks : Nat) (q_t_seenTimes : Nat) (q_t_seenSums : Nat) (t_factorCount : Int32) (t_termCount : Int32) (t_trialCount : Int32) (t_seenCount : Int32) (t_seenSquares : Int64) (t_times : (Nat → Int32)) (k : Int32 → Prop) (h : wpX1_triedSettings t_times k) : MI l yX1_triedSettings wsX1_triedSettings rmX1_triedSettings D (vTy cB cI cJ cZ cR) tz [.ref q_t] ([(q_t, .inr (1, [.int t_factorCount, .int t_termCount, .int t_trialCount, .int t_seenCount, .long t_seenSquares, .ref q_t_terms, .ref q_t_times, .ref q_t_words, .ref q_t_wordMarks, .ref q_t_seenTimes, .ref q_t_seenSums])), (q_t_times, .inl (cI, 64, .inl t_times))]) (fun (r : Int32) (u : Unit) => k r) (fun (u : Unit) => [(q_t, .inr (1, [.int t_factorCount, .int t_termCount, .int t_trialCount, .int t_seenCount, .long t_seenSquares, .ref q_t_terms, .ref q_t_times, .ref q_t_words, .ref q_t_wordMarks, .ref q_t_seenTimes, .ref q_t_seenSums])), (q_t_times, .inl (cI, 64, .inl t_times))]) 0 0 := by
  refine MI.of (cc := cX1_triedSettings) (maxL := 3) (ret := (some .int)) (by decide) rfl (Nat.le_of_ble_eq_true rfl) ?_
  intro p e s m args below meth c A ls Q hQ E
  obtain ⟨hx, hb, hml, hr, hts, hown, hlk, hin, hP, hK, hD, hS, hA, hT, hl⟩ := E
  have hown : s.vm.findClass RX1 = some m.cls := hown
  have hl : lv_has ls 3 [(0, .ref q_t)] := hl
  have iX1 : ∀ w ∈ wsX10, w ∈ wsX1_triedSettings := fun _ h => List.mem_cons_of_mem _ (List.mem_append_right _ h)
  unfold wpX1_triedSettings at h
  refine lv_iconst (v := 0) hx hb dX1_triedSettings_0 (by decide) ?_
  refine lv_istore_n (lv' := [(1, .int (0 : Int32)), (0, .ref q_t)]) hx hb dX1_triedSettings_1 rfl hl (by decide) rfl (fun ls hl => ?_)
  refine lv_iconst (v := 0) hx hb dX1_triedSettings_2 (by decide) ?_
  refine lv_istore_n (lv' := [(2, .int (0 : Int32)), (1, .int (0 : Int32)), (0, .ref q_t)]) hx hb dX1_triedSettings_3 rfl hl (by decide) rfl (fun ls hl => ?_)
  have hL_4 : ∀ (n_4 : Nat) (x1_1 : Int32) (x2_2 : Int32) (H : Heap) (locs : List Loc) (ls : Array Slot), wl (wbX1_triedSettings_4 t_times k) n_4 (x1_1, x2_2) → va_P D vwCl ([(q_t, .inr (1, [.int t_factorCount, .int t_termCount, .int t_trialCount, .int t_seenCount, .long t_seenSquares, .ref q_t_terms, .ref q_t_times, .ref q_t_words, .ref q_t_wordMarks, .ref q_t_seenTimes, .ref q_t_seenSums])), (q_t_times, .inl (cI, 64, .inl t_times))]) H → va_D A ([(q_t, .inr (1, [.int t_factorCount, .int t_termCount, .int t_trialCount, .int t_seenCount, .long t_seenSquares, .ref q_t_terms, .ref q_t_times, .ref q_t_words, .ref q_t_wordMarks, .ref q_t_seenTimes, .ref q_t_seenSums])), (q_t_times, .inl (cI, 64, .inl t_times))]) → va_S A s.heap H locs → lv_has ls 3 [(0, .ref q_t), (1, .int x1_1), (2, .int x2_2)] → W p l e rmX1_triedSettings s m args below meth c H locs 0 0 Q (F0 m 4 ls []) := by
    intro n_4
    induction n_4 with
    | zero => intro x1_1 x2_2 H locs ls h; exact h.elim
    | succ n_4 ih_4 =>
      intro x1_1 x2_2 H locs ls h hP hD hS hl
      rw [wl, wbX1_triedSettings_4] at h
      refine lv_iload_n hx hb dX1_triedSettings_4 rfl (lv_at hl 2 rfl) ?_
      refine lv_bipush (v := 64) hx hb dX1_triedSettings_5 (by decide) ?_
      obtain ⟨hp_3, hn_3⟩ := h
      refine lv_icmp_ge (tgt := 33) hx hb dX1_triedSettings_7 (by decide) (fun hc => ?_) (fun hc => ?_)
      · have h := hp_3 hc
        refine lv_iload_n hx hb dX1_triedSettings_33 rfl (lv_at hl 1 rfl) ?_
        subst hQ
        exact vr_I (v := x1_1) () hx hb hr hlk hP hD hS [0, 1] rfl rfl h dX1_triedSettings_34
      · have h := hn_3 hc
        refine lv_iload_n hx hb dX1_triedSettings_10 rfl (lv_at hl 1 rfl) ?_
        refine lv_aload_n hx hb dX1_triedSettings_11 rfl (lv_at hl 0 rfl) ?_
        refine va_get (v := .ref q_t_times) hx hb hts iX1 hown hK hP 0 rfl rfl 6 (by decide) (hts _ mX1_triedSettings_1) (fun _ h9 => h9) rfl dX1_triedSettings_12 ?_
        refine lv_iload_n hx hb dX1_triedSettings_15 rfl (lv_at hl 2 rfl) ?_
        obtain ⟨hi_4, h⟩ := h
        refine vi_ald hx hb hK hP 1 1 rfl rfl hi_4 rfl dX1_triedSettings_16 ?_
        obtain ⟨hp_5, hn_5⟩ := h
        refine lv_if_le (tgt := 24) hx hb dX1_triedSettings_17 (by decide) (fun hc => ?_) (fun hc => ?_)
        · have h := hp_5 hc
          refine lv_iconst (v := 0) hx hb dX1_triedSettings_24 (by decide) ?_
          refine lv_iadd hx hb dX1_triedSettings_25 ?_
          refine lv_istore_n (lv' := [(1, .int (x1_1 + (0 : Int32))), (0, .ref q_t), (2, .int x2_2)]) hx hb dX1_triedSettings_26 rfl hl (by decide) rfl (fun ls hl => ?_)
          refine lv_iinc (v := x2_2 + (1 : Int32)) (lv' := [(2, .int (x2_2 + (1 : Int32))), (1, .int (x1_1 + (0 : Int32))), (0, .ref q_t)]) hx hb dX1_triedSettings_27 hl (k := 2) rfl rfl (by decide) rfl (fun ls hl => ?_)
          refine lv_goto (tgt := 4) hx hb dX1_triedSettings_30 (by decide) ?_
          exact ih_4 (x1_1 + (0 : Int32)) (x2_2 + (1 : Int32)) _ _ _ h hP hD hS (lv_sub hl [2, 1, 0] rfl)
        · have h := hn_5 hc
          refine lv_iconst (v := 1) hx hb dX1_triedSettings_20 (by decide) ?_
          refine lv_goto (tgt := 25) hx hb dX1_triedSettings_21 (by decide) ?_
          refine lv_iadd hx hb dX1_triedSettings_25 ?_
          refine lv_istore_n (lv' := [(1, .int (x1_1 + (1 : Int32))), (0, .ref q_t), (2, .int x2_2)]) hx hb dX1_triedSettings_26 rfl hl (by decide) rfl (fun ls hl => ?_)
          refine lv_iinc (v := x2_2 + (1 : Int32)) (lv' := [(2, .int (x2_2 + (1 : Int32))), (1, .int (x1_1 + (1 : Int32))), (0, .ref q_t)]) hx hb dX1_triedSettings_27 hl (k := 2) rfl rfl (by decide) rfl (fun ls hl => ?_)
          refine lv_goto (tgt := 4) hx hb dX1_triedSettings_30 (by decide) ?_
          exact ih_4 (x1_1 + (1 : Int32)) (x2_2 + (1 : Int32)) _ _ _ h hP hD hS (lv_sub hl [2, 1, 0] rfl)
  obtain ⟨n_4, h⟩ := h
  exact hL_4 n_4 (0 : Int32) (0 : Int32) _ _ _ h hP hD hS (lv_sub hl [2, 1, 0] rfl)
abbrev rmX1_markOf : Room := { frames := 1, cells := 0, slots := 0, locals := 20 }
set_option maxHeartbeats 4000000 in
set_option maxRecDepth 100000 in
theorem ctX1_markOf (l : Launch) (D : va_G) (cB cI cJ cZ cR : ClassId) (tz : Nat) (a1 : Int32) (a2 : Int32) (k : Int32 → Prop) (h : wpX1_markOf a1 a2 k) : MI l yX1_markOf wsX1_markOf rmX1_markOf D (vTy cB cI cJ cZ cR) tz [.int a1, .int a2] ([]) (fun (r : Int32) (u : Unit) => k r) (fun (u : Unit) => []) 0 0 := by
  refine MI.of (cc := cX1_markOf) (maxL := 2) (ret := (some .int)) (by decide) rfl (Nat.le_of_ble_eq_true rfl) ?_
  intro p e s m args below meth c A ls Q hQ E
  obtain ⟨hx, hb, hml, hr, hts, hown, hlk, hin, hP, hK, hD, hS, hA, hT, hl⟩ := E
  have hown : s.vm.findClass RX1 = some m.cls := hown
  have hl : lv_has ls 2 [(0, .int a1), (1, .int a2)] := hl
  unfold wpX1_markOf at h
  refine lv_iload_n hx hb dX1_markOf_0 rfl (lv_at hl 0 rfl) ?_
  refine lv_iload_n hx hb dX1_markOf_1 rfl (lv_at hl 1 rfl) ?_
  refine lv_iconst (v := -1) hx hb dX1_markOf_2 (by decide) ?_
  refine lv_ixor hx hb dX1_markOf_3 ?_
  refine lv_iand hx hb dX1_markOf_4 ?_
  refine vc_SI (As := [.int (a1 &&& (a2 ^^^ (-1 : Int32)))]) (rest := []) (wr := []) ⟨hx, hb, hml, hown, hts⟩ (ctbit l D cB cI cJ cZ cR tz (a1 &&& (a2 ^^^ (-1 : Int32)))) (va_cwS 1 hts gX1_markOf_J6_bitCount_0f7a4 rfl rfl rfl hdJ6_bitCount_0f7a4.2 ⟨Nat.le_of_ble_eq_true rfl, Nat.le_of_ble_eq_true rfl⟩) hK hP hD hS hA hT [] [] rfl rfl rfl rfl (by decide) rfl rfl hl.1 (Nat.le_of_ble_eq_true rfl) dX1_markOf_5 ⟨Nat.le_of_ble_eq_true rfl, Nat.le_of_ble_eq_true rfl⟩ (fun r9 u9 H locs h9 hP hD hS => ?_)
  subst h9
  have hP : va_P D vwCl ([]) H := hP
  have hD : va_D A ([]) := hD
  refine lv_iconst (v := 1) hx hb dX1_markOf_8 (by decide) ?_
  refine lv_iand hx hb dX1_markOf_9 ?_
  obtain ⟨hp_1, hn_1⟩ := h
  refine lv_if_ne (tgt := 17) hx hb dX1_markOf_10 (by decide) (fun hc => ?_) (fun hc => ?_)
  · have h := hn_1 hc
    refine lv_iconst (v := -1) hx hb dX1_markOf_17 (by decide) ?_
    subst hQ
    exact vr_I (v := (-1 : Int32)) () hx hb hr hlk hP hD hS [] rfl rfl h dX1_markOf_18
  · have h := hp_1 hc
    refine lv_iconst (v := 1) hx hb dX1_markOf_13 (by decide) ?_
    refine lv_goto (tgt := 18) hx hb dX1_markOf_14 (by decide) ?_
    subst hQ
    exact vr_I (v := (1 : Int32)) () hx hb hr hlk hP hD hS [] rfl rfl h dX1_markOf_18
theorem mX1_signsAt_1 : Cond.fieldLink RX1 34 "TrialDesk$Desk" "termCount" "I" ∈ wsX1_signsAt := List.mem_of_getElem? (i := 1) (by decide +kernel)
theorem mX1_signsAt_2 : Cond.fieldLink RX1 9 "TrialDesk$Desk" "terms" "[I" ∈ wsX1_signsAt := List.mem_of_getElem? (i := 2) (by decide +kernel)
abbrev rmX1_signsAt : Room := { frames := 1, cells := 0, slots := 0, locals := 20 }
set_option maxHeartbeats 4000000 in
set_option maxRecDepth 100000 in
theorem ctX1_signsAt (l : Launch) (D : va_G) (cB cI cJ cZ cR : ClassId) (tz : Nat) (q_t : Nat) (q_t_terms : Nat) (q_t_times : Nat) (q_t_words : Nat) (q_t_wordMarks : Nat) (q_t_seenTimes : Nat) (q_t_seenSums : Nat) (t_factorCount : Int32) (t_termCount : Int32) (t_trialCount : Int32) (t_seenCount : Int32) (t_seenSquares : Int64) (t_terms : (Nat → Int32)) (a1 : Int32) (k : Int32 → Prop) (h : wpX1_signsAt t_termCount t_terms a1 k) : MI l yX1_signsAt wsX1_signsAt rmX1_signsAt D (vTy cB cI cJ cZ cR) tz [.ref q_t, .int a1] ([(q_t, .inr (1, [.int t_factorCount, .int t_termCount, .int t_trialCount, .int t_seenCount, .long t_seenSquares, .ref q_t_terms, .ref q_t_times, .ref q_t_words, .ref q_t_wordMarks, .ref q_t_seenTimes, .ref q_t_seenSums])), (q_t_terms, .inl (cI, 5, .inl t_terms))]) (fun (r : Int32) (u : Unit) => k r) (fun (u : Unit) => [(q_t, .inr (1, [.int t_factorCount, .int t_termCount, .int t_trialCount, .int t_seenCount, .long t_seenSquares, .ref q_t_terms, .ref q_t_times, .ref q_t_words, .ref q_t_wordMarks, .ref q_t_seenTimes, .ref q_t_seenSums])), (q_t_terms, .inl (cI, 5, .inl t_terms))]) 0 0 := by
  refine MI.of (cc := cX1_signsAt) (maxL := 4) (ret := (some .int)) (by decide) rfl (Nat.le_of_ble_eq_true rfl) ?_
  intro p e s m args below meth c A ls Q hQ E
  obtain ⟨hx, hb, hml, hr, hts, hown, hlk, hin, hP, hK, hD, hS, hA, hT, hl⟩ := E
  have hown : s.vm.findClass RX1 = some m.cls := hown
  have hl : lv_has ls 4 [(0, .ref q_t), (1, .int a1)] := hl
  have iX1 : ∀ w ∈ wsX10, w ∈ wsX1_signsAt := fun _ h => List.mem_cons_of_mem _ (List.mem_append_right _ h)
  unfold wpX1_signsAt at h
  refine lv_iconst (v := 0) hx hb dX1_signsAt_0 (by decide) ?_
  refine lv_istore_n (lv' := [(2, .int (0 : Int32)), (0, .ref q_t), (1, .int a1)]) hx hb dX1_signsAt_1 rfl hl (by decide) rfl (fun ls hl => ?_)
  refine lv_iconst (v := 0) hx hb dX1_signsAt_2 (by decide) ?_
  refine lv_istore_n (lv' := [(3, .int (0 : Int32)), (2, .int (0 : Int32)), (0, .ref q_t), (1, .int a1)]) hx hb dX1_signsAt_3 rfl hl (by decide) rfl (fun ls hl => ?_)
  have hL_4 : ∀ (n_4 : Nat) (x2_1 : Int32) (x3_2 : Int32) (H : Heap) (locs : List Loc) (ls : Array Slot), wl (wbX1_signsAt_4 t_termCount t_terms a1 k) n_4 (x2_1, x3_2) → va_P D vwCl ([(q_t, .inr (1, [.int t_factorCount, .int t_termCount, .int t_trialCount, .int t_seenCount, .long t_seenSquares, .ref q_t_terms, .ref q_t_times, .ref q_t_words, .ref q_t_wordMarks, .ref q_t_seenTimes, .ref q_t_seenSums])), (q_t_terms, .inl (cI, 5, .inl t_terms))]) H → va_D A ([(q_t, .inr (1, [.int t_factorCount, .int t_termCount, .int t_trialCount, .int t_seenCount, .long t_seenSquares, .ref q_t_terms, .ref q_t_times, .ref q_t_words, .ref q_t_wordMarks, .ref q_t_seenTimes, .ref q_t_seenSums])), (q_t_terms, .inl (cI, 5, .inl t_terms))]) → va_S A s.heap H locs → lv_has ls 4 [(0, .ref q_t), (1, .int a1), (2, .int x2_1), (3, .int x3_2)] → W p l e rmX1_signsAt s m args below meth c H locs 0 0 Q (F0 m 4 ls []) := by
    intro n_4
    induction n_4 with
    | zero => intro x2_1 x3_2 H locs ls h; exact h.elim
    | succ n_4 ih_4 =>
      intro x2_1 x3_2 H locs ls h hP hD hS hl
      rw [wl, wbX1_signsAt_4] at h
      refine lv_iload_n hx hb dX1_signsAt_4 rfl (lv_at hl 3 rfl) ?_
      refine lv_aload_n hx hb dX1_signsAt_5 rfl (lv_at hl 0 rfl) ?_
      refine va_get (v := .int t_termCount) hx hb hts iX1 hown hK hP 0 rfl rfl 1 (by decide) (hts _ mX1_signsAt_1) (fun _ h9 => h9) rfl dX1_signsAt_6 ?_
      obtain ⟨hp_3, hn_3⟩ := h
      refine lv_icmp_ge (tgt := 38) hx hb dX1_signsAt_9 (by decide) (fun hc => ?_) (fun hc => ?_)
      · have h := hp_3 hc
        refine lv_iload_n hx hb dX1_signsAt_38 rfl (lv_at hl 2 rfl) ?_
        subst hQ
        exact vr_I (v := x2_1) () hx hb hr hlk hP hD hS [0, 1] rfl rfl h dX1_signsAt_39
      · have h := hn_3 hc
        refine lv_iload_n hx hb dX1_signsAt_12 rfl (lv_at hl 2 rfl) ?_
        refine lv_aload_n hx hb dX1_signsAt_13 rfl (lv_at hl 0 rfl) ?_
        refine va_get (v := .ref q_t_terms) hx hb hts iX1 hown hK hP 0 rfl rfl 5 (by decide) (hts _ mX1_signsAt_2) (fun _ h9 => h9) rfl dX1_signsAt_14 ?_
        refine lv_iload_n hx hb dX1_signsAt_17 rfl (lv_at hl 3 rfl) ?_
        obtain ⟨hi_4, h⟩ := h
        refine vi_ald hx hb hK hP 1 1 rfl rfl hi_4 rfl dX1_signsAt_18 ?_
        refine lv_iload_n hx hb dX1_signsAt_19 rfl (lv_at hl 1 rfl) ?_
        refine lv_iconst (v := -1) hx hb dX1_signsAt_20 (by decide) ?_
        refine lv_ixor hx hb dX1_signsAt_21 ?_
        refine lv_iand hx hb dX1_signsAt_22 ?_
        refine vc_SI (As := [.int ((t_terms (x3_2.toNatClampNeg)) &&& (a1 ^^^ (-1 : Int32)))]) (rest := [.int x2_1]) (wr := [(q_t, .inr (1, [.int t_factorCount, .int t_termCount, .int t_trialCount, .int t_seenCount, .long t_seenSquares, .ref q_t_terms, .ref q_t_times, .ref q_t_words, .ref q_t_wordMarks, .ref q_t_seenTimes, .ref q_t_seenSums])), (q_t_terms, .inl (cI, 5, .inl t_terms))]) ⟨hx, hb, hml, hown, hts⟩ (ctbit l D cB cI cJ cZ cR tz ((t_terms (x3_2.toNatClampNeg)) &&& (a1 ^^^ (-1 : Int32)))) (va_cwS 1 hts gX1_signsAt_J6_bitCount_0f7a4 rfl rfl rfl hdJ6_bitCount_0f7a4.2 ⟨Nat.le_of_ble_eq_true rfl, Nat.le_of_ble_eq_true rfl⟩) hK hP hD hS hA hT [] [0, 1] rfl rfl rfl rfl (by decide) rfl rfl hl.1 (Nat.le_of_ble_eq_true rfl) dX1_signsAt_23 ⟨Nat.le_of_ble_eq_true rfl, Nat.le_of_ble_eq_true rfl⟩ (fun r9 u9 H locs h9 hP hD hS => ?_)
        subst h9
        have hP : va_P D vwCl ([(q_t, .inr (1, [.int t_factorCount, .int t_termCount, .int t_trialCount, .int t_seenCount, .long t_seenSquares, .ref q_t_terms, .ref q_t_times, .ref q_t_words, .ref q_t_wordMarks, .ref q_t_seenTimes, .ref q_t_seenSums])), (q_t_terms, .inl (cI, 5, .inl t_terms))]) H := hP
        have hD : va_D A ([(q_t, .inr (1, [.int t_factorCount, .int t_termCount, .int t_trialCount, .int t_seenCount, .long t_seenSquares, .ref q_t_terms, .ref q_t_times, .ref q_t_words, .ref q_t_wordMarks, .ref q_t_seenTimes, .ref q_t_seenSums])), (q_t_terms, .inl (cI, 5, .inl t_terms))]) := hD
        refine lv_iconst (v := 1) hx hb dX1_signsAt_26 (by decide) ?_
        refine lv_iand hx hb dX1_signsAt_27 ?_
        refine lv_iload_n hx hb dX1_signsAt_28 rfl (lv_at hl 3 rfl) ?_
        refine lv_ishl hx hb dX1_signsAt_29 ?_
        refine lv_ior hx hb dX1_signsAt_30 ?_
        refine lv_istore_n (lv' := [(2, .int (x2_1 ||| (((vbc ((t_terms (x3_2.toNatClampNeg)) &&& (a1 ^^^ (-1 : Int32)))) &&& (1 : Int32)) <<< (x3_2 &&& 31)))), (0, .ref q_t), (1, .int a1), (3, .int x3_2)]) hx hb dX1_signsAt_31 rfl hl (by decide) rfl (fun ls hl => ?_)
        refine lv_iinc (v := x3_2 + (1 : Int32)) (lv' := [(3, .int (x3_2 + (1 : Int32))), (2, .int (x2_1 ||| (((vbc ((t_terms (x3_2.toNatClampNeg)) &&& (a1 ^^^ (-1 : Int32)))) &&& (1 : Int32)) <<< (x3_2 &&& 31)))), (0, .ref q_t), (1, .int a1)]) hx hb dX1_signsAt_32 hl (k := 3) rfl rfl (by decide) rfl (fun ls hl => ?_)
        refine lv_goto (tgt := 4) hx hb dX1_signsAt_35 (by decide) ?_
        exact ih_4 (x2_1 ||| (((vbc ((t_terms (x3_2.toNatClampNeg)) &&& (a1 ^^^ (-1 : Int32)))) &&& (1 : Int32)) <<< (x3_2 &&& 31))) (x3_2 + (1 : Int32)) _ _ _ h hP hD hS (lv_sub hl [2, 3, 1, 0] rfl)
  obtain ⟨n_4, h⟩ := h
  exact hL_4 n_4 (0 : Int32) (0 : Int32) _ _ _ h hP hD hS (lv_sub hl [2, 3, 1, 0] rfl)
theorem mX1_kindOf_1 : Cond.fieldLink RX1 34 "TrialDesk$Desk" "termCount" "I" ∈ wsX1_kindOf := List.mem_of_getElem? (i := 1) (by decide +kernel)
abbrev rmX1_kindOf : Room := { frames := 0, cells := 0, slots := 0, locals := 0 }
set_option maxHeartbeats 4000000 in
set_option maxRecDepth 100000 in
theorem ctX1_kindOf (l : Launch) (D : va_G) (cB cI cJ cZ cR : ClassId) (tz : Nat) (q_t : Nat) (q_t_terms : Nat) (q_t_times : Nat) (q_t_words : Nat) (q_t_wordMarks : Nat) (q_t_seenTimes : Nat) (q_t_seenSums : Nat) (t_factorCount : Int32) (t_termCount : Int32) (t_trialCount : Int32) (t_seenCount : Int32) (t_seenSquares : Int64) (a1 : Int32) (k : Int32 → Prop) (h : wpX1_kindOf t_termCount a1 k) : MI l yX1_kindOf wsX1_kindOf rmX1_kindOf D (vTy cB cI cJ cZ cR) tz [.ref q_t, .int a1] ([(q_t, .inr (1, [.int t_factorCount, .int t_termCount, .int t_trialCount, .int t_seenCount, .long t_seenSquares, .ref q_t_terms, .ref q_t_times, .ref q_t_words, .ref q_t_wordMarks, .ref q_t_seenTimes, .ref q_t_seenSums]))]) (fun (r : Int32) (u : Unit) => k r) (fun (u : Unit) => [(q_t, .inr (1, [.int t_factorCount, .int t_termCount, .int t_trialCount, .int t_seenCount, .long t_seenSquares, .ref q_t_terms, .ref q_t_times, .ref q_t_words, .ref q_t_wordMarks, .ref q_t_seenTimes, .ref q_t_seenSums]))]) 0 0 := by
  refine MI.of (cc := cX1_kindOf) (maxL := 3) (ret := (some .int)) (by decide) rfl (Nat.le_of_ble_eq_true rfl) ?_
  intro p e s m args below meth c A ls Q hQ E
  obtain ⟨hx, hb, hml, hr, hts, hown, hlk, hin, hP, hK, hD, hS, hA, hT, hl⟩ := E
  have hown : s.vm.findClass RX1 = some m.cls := hown
  have hl : lv_has ls 3 [(0, .ref q_t), (1, .int a1)] := hl
  have iX1 : ∀ w ∈ wsX10, w ∈ wsX1_kindOf := fun _ h => List.mem_cons_of_mem _ (List.mem_append_right _ h)
  unfold wpX1_kindOf at h
  refine lv_iconst (v := 1) hx hb dX1_kindOf_0 (by decide) ?_
  refine lv_aload_n hx hb dX1_kindOf_1 rfl (lv_at hl 0 rfl) ?_
  refine va_get (v := .int t_termCount) hx hb hts iX1 hown hK hP 0 rfl rfl 1 (by decide) (hts _ mX1_kindOf_1) (fun _ h9 => h9) rfl dX1_kindOf_2 ?_
  refine lv_ishl hx hb dX1_kindOf_5 ?_
  refine lv_iconst (v := 1) hx hb dX1_kindOf_6 (by decide) ?_
  refine lv_isub hx hb dX1_kindOf_7 ?_
  refine lv_istore_n (lv' := [(2, .int (((1 : Int32) <<< (t_termCount &&& 31)) - (1 : Int32))), (0, .ref q_t), (1, .int a1)]) hx hb dX1_kindOf_8 rfl hl (by decide) rfl (fun ls hl => ?_)
  refine lv_iload_n hx hb dX1_kindOf_9 rfl (lv_at hl 2 rfl) ?_
  refine lv_iconst (v := 1) hx hb dX1_kindOf_10 (by decide) ?_
  refine lv_iand hx hb dX1_kindOf_11 ?_
  obtain ⟨hp_1, hn_1⟩ := h
  refine lv_if_ne (tgt := 19) hx hb dX1_kindOf_12 (by decide) (fun hc => ?_) (fun hc => ?_)
  · have h := hn_1 hc
    refine lv_iload_n hx hb dX1_kindOf_19 rfl (lv_at hl 0 rfl) ?_
    refine lv_iload_n hx hb dX1_kindOf_20 rfl (lv_at hl 2 rfl) ?_
    refine lv_iconst (v := -1) hx hb dX1_kindOf_21 (by decide) ?_
    refine lv_ixor hx hb dX1_kindOf_22 ?_
    refine lv_iand hx hb dX1_kindOf_23 ?_
    refine lv_iconst (v := 1) hx hb dX1_kindOf_24 (by decide) ?_
    refine lv_ishr hx hb dX1_kindOf_25 ?_
    subst hQ
    exact vr_I (v := ((((1 : Int32) <<< (t_termCount &&& 31)) - (1 : Int32)) &&& (a1 ^^^ (-1 : Int32))) >>> ((1 : Int32) &&& 31)) () hx hb hr hlk hP hD hS [0] rfl rfl h dX1_kindOf_26
  · have h := hp_1 hc
    refine lv_iload_n hx hb dX1_kindOf_15 rfl (lv_at hl 2 rfl) ?_
    refine lv_goto (tgt := 24) hx hb dX1_kindOf_16 (by decide) ?_
    refine lv_iconst (v := 1) hx hb dX1_kindOf_24 (by decide) ?_
    refine lv_ishr hx hb dX1_kindOf_25 ?_
    subst hQ
    exact vr_I (v := a1 >>> ((1 : Int32) &&& 31)) () hx hb hr hlk hP hD hS [0] rfl rfl h dX1_kindOf_26
theorem mX1_wordCount_1 : Cond.fieldLink RX1 18 "TrialDesk$Desk" "words" "[I" ∈ wsX1_wordCount := List.mem_of_getElem? (i := 1) (by decide +kernel)
abbrev rmX1_wordCount : Room := { frames := 0, cells := 0, slots := 0, locals := 0 }
set_option maxHeartbeats 4000000 in
set_option maxRecDepth 100000 in
theorem ctX1_wordCount (l : Launch) (D : va_G) (cB cI cJ cZ cR : ClassId) (tz : Nat) (q_t : Nat) (q_t_terms : Nat) (q_t_times : Nat) (q_t_words : Nat) (q_t_wordMarks : Nat) (q_t_seenTimes : Nat) (q_t_seenSums : Nat) (t_factorCount : Int32) (t_termCount : Int32) (t_trialCount : Int32) (t_seenCount : Int32) (t_seenSquares : Int64) (t_words : (Nat → Int32)) (k : Int32 → Prop) (h : wpX1_wordCount t_words k) : MI l yX1_wordCount wsX1_wordCount rmX1_wordCount D (vTy cB cI cJ cZ cR) tz [.ref q_t] ([(q_t, .inr (1, [.int t_factorCount, .int t_termCount, .int t_trialCount, .int t_seenCount, .long t_seenSquares, .ref q_t_terms, .ref q_t_times, .ref q_t_words, .ref q_t_wordMarks, .ref q_t_seenTimes, .ref q_t_seenSums])), (q_t_words, .inl (cI, 4, .inl t_words))]) (fun (r : Int32) (u : Unit) => k r) (fun (u : Unit) => [(q_t, .inr (1, [.int t_factorCount, .int t_termCount, .int t_trialCount, .int t_seenCount, .long t_seenSquares, .ref q_t_terms, .ref q_t_times, .ref q_t_words, .ref q_t_wordMarks, .ref q_t_seenTimes, .ref q_t_seenSums])), (q_t_words, .inl (cI, 4, .inl t_words))]) 0 0 := by
  refine MI.of (cc := cX1_wordCount) (maxL := 3) (ret := (some .int)) (by decide) rfl (Nat.le_of_ble_eq_true rfl) ?_
  intro p e s m args below meth c A ls Q hQ E
  obtain ⟨hx, hb, hml, hr, hts, hown, hlk, hin, hP, hK, hD, hS, hA, hT, hl⟩ := E
  have hown : s.vm.findClass RX1 = some m.cls := hown
  have hl : lv_has ls 3 [(0, .ref q_t)] := hl
  have iX1 : ∀ w ∈ wsX10, w ∈ wsX1_wordCount := fun _ h => List.mem_cons_of_mem _ (List.mem_append_right _ h)
  unfold wpX1_wordCount at h
  refine lv_iconst (v := 0) hx hb dX1_wordCount_0 (by decide) ?_
  refine lv_istore_n (lv' := [(1, .int (0 : Int32)), (0, .ref q_t)]) hx hb dX1_wordCount_1 rfl hl (by decide) rfl (fun ls hl => ?_)
  refine lv_iconst (v := 0) hx hb dX1_wordCount_2 (by decide) ?_
  refine lv_istore_n (lv' := [(2, .int (0 : Int32)), (1, .int (0 : Int32)), (0, .ref q_t)]) hx hb dX1_wordCount_3 rfl hl (by decide) rfl (fun ls hl => ?_)
  have hL_4 : ∀ (n_4 : Nat) (x1_1 : Int32) (x2_2 : Int32) (H : Heap) (locs : List Loc) (ls : Array Slot), wl (wbX1_wordCount_4 t_words k) n_4 (x1_1, x2_2) → va_P D vwCl ([(q_t, .inr (1, [.int t_factorCount, .int t_termCount, .int t_trialCount, .int t_seenCount, .long t_seenSquares, .ref q_t_terms, .ref q_t_times, .ref q_t_words, .ref q_t_wordMarks, .ref q_t_seenTimes, .ref q_t_seenSums])), (q_t_words, .inl (cI, 4, .inl t_words))]) H → va_D A ([(q_t, .inr (1, [.int t_factorCount, .int t_termCount, .int t_trialCount, .int t_seenCount, .long t_seenSquares, .ref q_t_terms, .ref q_t_times, .ref q_t_words, .ref q_t_wordMarks, .ref q_t_seenTimes, .ref q_t_seenSums])), (q_t_words, .inl (cI, 4, .inl t_words))]) → va_S A s.heap H locs → lv_has ls 3 [(0, .ref q_t), (1, .int x1_1), (2, .int x2_2)] → W p l e rmX1_wordCount s m args below meth c H locs 0 0 Q (F0 m 4 ls []) := by
    intro n_4
    induction n_4 with
    | zero => intro x1_1 x2_2 H locs ls h; exact h.elim
    | succ n_4 ih_4 =>
      intro x1_1 x2_2 H locs ls h hP hD hS hl
      rw [wl, wbX1_wordCount_4] at h
      refine lv_iload_n hx hb dX1_wordCount_4 rfl (lv_at hl 2 rfl) ?_
      refine lv_iconst (v := 4) hx hb dX1_wordCount_5 (by decide) ?_
      obtain ⟨hp_3, hn_3⟩ := h
      refine lv_icmp_ge (tgt := 32) hx hb dX1_wordCount_6 (by decide) (fun hc => ?_) (fun hc => ?_)
      · have h := hp_3 hc
        refine lv_iload_n hx hb dX1_wordCount_32 rfl (lv_at hl 1 rfl) ?_
        subst hQ
        exact vr_I (v := x1_1) () hx hb hr hlk hP hD hS [0, 1] rfl rfl h dX1_wordCount_33
      · have h := hn_3 hc
        refine lv_iload_n hx hb dX1_wordCount_9 rfl (lv_at hl 1 rfl) ?_
        refine lv_aload_n hx hb dX1_wordCount_10 rfl (lv_at hl 0 rfl) ?_
        refine va_get (v := .ref q_t_words) hx hb hts iX1 hown hK hP 0 rfl rfl 7 (by decide) (hts _ mX1_wordCount_1) (fun _ h9 => h9) rfl dX1_wordCount_11 ?_
        refine lv_iload_n hx hb dX1_wordCount_14 rfl (lv_at hl 2 rfl) ?_
        obtain ⟨hi_4, h⟩ := h
        refine vi_ald hx hb hK hP 1 1 rfl rfl hi_4 rfl dX1_wordCount_15 ?_
        obtain ⟨hp_5, hn_5⟩ := h
        refine lv_if_eq (tgt := 23) hx hb dX1_wordCount_16 (by decide) (fun hc => ?_) (fun hc => ?_)
        · have h := hp_5 hc
          refine lv_iconst (v := 0) hx hb dX1_wordCount_23 (by decide) ?_
          refine lv_iadd hx hb dX1_wordCount_24 ?_
          refine lv_istore_n (lv' := [(1, .int (x1_1 + (0 : Int32))), (0, .ref q_t), (2, .int x2_2)]) hx hb dX1_wordCount_25 rfl hl (by decide) rfl (fun ls hl => ?_)
          refine lv_iinc (v := x2_2 + (1 : Int32)) (lv' := [(2, .int (x2_2 + (1 : Int32))), (1, .int (x1_1 + (0 : Int32))), (0, .ref q_t)]) hx hb dX1_wordCount_26 hl (k := 2) rfl rfl (by decide) rfl (fun ls hl => ?_)
          refine lv_goto (tgt := 4) hx hb dX1_wordCount_29 (by decide) ?_
          exact ih_4 (x1_1 + (0 : Int32)) (x2_2 + (1 : Int32)) _ _ _ h hP hD hS (lv_sub hl [2, 1, 0] rfl)
        · have h := hn_5 hc
          refine lv_iconst (v := 1) hx hb dX1_wordCount_19 (by decide) ?_
          refine lv_goto (tgt := 24) hx hb dX1_wordCount_20 (by decide) ?_
          refine lv_iadd hx hb dX1_wordCount_24 ?_
          refine lv_istore_n (lv' := [(1, .int (x1_1 + (1 : Int32))), (0, .ref q_t), (2, .int x2_2)]) hx hb dX1_wordCount_25 rfl hl (by decide) rfl (fun ls hl => ?_)
          refine lv_iinc (v := x2_2 + (1 : Int32)) (lv' := [(2, .int (x2_2 + (1 : Int32))), (1, .int (x1_1 + (1 : Int32))), (0, .ref q_t)]) hx hb dX1_wordCount_26 hl (k := 2) rfl rfl (by decide) rfl (fun ls hl => ?_)
          refine lv_goto (tgt := 4) hx hb dX1_wordCount_29 (by decide) ?_
          exact ih_4 (x1_1 + (1 : Int32)) (x2_2 + (1 : Int32)) _ _ _ h hP hD hS (lv_sub hl [2, 1, 0] rfl)
  obtain ⟨n_4, h⟩ := h
  exact hL_4 n_4 (0 : Int32) (0 : Int32) _ _ _ h hP hD hS (lv_sub hl [2, 1, 0] rfl)
theorem mX1_isInPart_1 : Cond.fieldLink RX1 18 "TrialDesk$Desk" "words" "[I" ∈ wsX1_isInPart := List.mem_of_getElem? (i := 1) (by decide +kernel)
theorem mX1_isInPart_2 : Cond.fieldLink RX1 21 "TrialDesk$Desk" "wordMarks" "[I" ∈ wsX1_isInPart := List.mem_of_getElem? (i := 2) (by decide +kernel)
abbrev rmX1_isInPart : Room := { frames := 2, cells := 0, slots := 0, locals := 41 }
set_option maxHeartbeats 4000000 in
set_option maxRecDepth 100000 in
theorem ctX1_isInPart (l : Launch) (D : va_G) (cB cI cJ cZ cR : ClassId) (tz : Nat) (q_t : Nat) (q_t_terms : Nat) (q_t_times : Nat) (q_t_words : Nat) (q_t_wordMarks : Nat) (q_t_seenTimes : Nat) (q_t_seenSums : Nat) (t_factorCount : Int32) (t_termCount : Int32) (t_trialCount : Int32) (t_seenCount : Int32) (t_seenSquares : Int64) (t_words : (Nat → Int32)) (t_wordMarks : (Nat → Int32)) (a1 : Int32) (k : Int32 → Prop) (h : wpX1_isInPart t_words t_wordMarks a1 k) : MI l yX1_isInPart wsX1_isInPart rmX1_isInPart D (vTy cB cI cJ cZ cR) tz [.ref q_t, .int a1] ([(q_t, .inr (1, [.int t_factorCount, .int t_termCount, .int t_trialCount, .int t_seenCount, .long t_seenSquares, .ref q_t_terms, .ref q_t_times, .ref q_t_words, .ref q_t_wordMarks, .ref q_t_seenTimes, .ref q_t_seenSums])), (q_t_words, .inl (cI, 4, .inl t_words)), (q_t_wordMarks, .inl (cI, 4, .inl t_wordMarks))]) (fun (r : Int32) (u : Unit) => k r) (fun (u : Unit) => [(q_t, .inr (1, [.int t_factorCount, .int t_termCount, .int t_trialCount, .int t_seenCount, .long t_seenSquares, .ref q_t_terms, .ref q_t_times, .ref q_t_words, .ref q_t_wordMarks, .ref q_t_seenTimes, .ref q_t_seenSums])), (q_t_words, .inl (cI, 4, .inl t_words)), (q_t_wordMarks, .inl (cI, 4, .inl t_wordMarks))]) 0 0 := by
  refine MI.of (cc := cX1_isInPart) (maxL := 3) (ret := (some .boolean)) (by decide) rfl (Nat.le_of_ble_eq_true rfl) ?_
  intro p e s m args below meth c A ls Q hQ E
  obtain ⟨hx, hb, hml, hr, hts, hown, hlk, hin, hP, hK, hD, hS, hA, hT, hl⟩ := E
  have hown : s.vm.findClass RX1 = some m.cls := hown
  have hl : lv_has ls 3 [(0, .ref q_t), (1, .int a1)] := hl
  have iX1 : ∀ w ∈ wsX10, w ∈ wsX1_isInPart := fun _ h => List.mem_cons_of_mem _ (List.mem_append_right _ h)
  unfold wpX1_isInPart at h
  refine lv_iconst (v := 0) hx hb dX1_isInPart_0 (by decide) ?_
  refine lv_istore_n (lv' := [(2, .int (0 : Int32)), (0, .ref q_t), (1, .int a1)]) hx hb dX1_isInPart_1 rfl hl (by decide) rfl (fun ls hl => ?_)
  have hL_2 : ∀ (n_2 : Nat) (x2_1 : Int32) (H : Heap) (locs : List Loc) (ls : Array Slot), wl (wbX1_isInPart_2 t_words t_wordMarks a1 k) n_2 x2_1 → va_P D vwCl ([(q_t, .inr (1, [.int t_factorCount, .int t_termCount, .int t_trialCount, .int t_seenCount, .long t_seenSquares, .ref q_t_terms, .ref q_t_times, .ref q_t_words, .ref q_t_wordMarks, .ref q_t_seenTimes, .ref q_t_seenSums])), (q_t_words, .inl (cI, 4, .inl t_words)), (q_t_wordMarks, .inl (cI, 4, .inl t_wordMarks))]) H → va_D A ([(q_t, .inr (1, [.int t_factorCount, .int t_termCount, .int t_trialCount, .int t_seenCount, .long t_seenSquares, .ref q_t_terms, .ref q_t_times, .ref q_t_words, .ref q_t_wordMarks, .ref q_t_seenTimes, .ref q_t_seenSums])), (q_t_words, .inl (cI, 4, .inl t_words)), (q_t_wordMarks, .inl (cI, 4, .inl t_wordMarks))]) → va_S A s.heap H locs → lv_has ls 3 [(0, .ref q_t), (1, .int a1), (2, .int x2_1)] → W p l e rmX1_isInPart s m args below meth c H locs 0 0 Q (F0 m 2 ls []) := by
    intro n_2
    induction n_2 with
    | zero => intro x2_1 H locs ls h; exact h.elim
    | succ n_2 ih_2 =>
      intro x2_1 H locs ls h hP hD hS hl
      rw [wl, wbX1_isInPart_2] at h
      refine lv_iload_n hx hb dX1_isInPart_2 rfl (lv_at hl 2 rfl) ?_
      refine lv_iconst (v := 4) hx hb dX1_isInPart_3 (by decide) ?_
      obtain ⟨hp_2, hn_2⟩ := h
      refine lv_icmp_ge (tgt := 43) hx hb dX1_isInPart_4 (by decide) (fun hc => ?_) (fun hc => ?_)
      · have h := hp_2 hc
        refine lv_iconst (v := 1) hx hb dX1_isInPart_43 (by decide) ?_
        subst hQ
        exact vr_Z (v := (1 : Int32)) () hx hb hr hlk rfl hP hD hS [0, 1, 2] rfl rfl h dX1_isInPart_44
      · have h := hn_2 hc
        refine lv_aload_n hx hb dX1_isInPart_7 rfl (lv_at hl 0 rfl) ?_
        refine va_get (v := .ref q_t_words) hx hb hts iX1 hown hK hP 0 rfl rfl 7 (by decide) (hts _ mX1_isInPart_1) (fun _ h9 => h9) rfl dX1_isInPart_8 ?_
        refine lv_iload_n hx hb dX1_isInPart_11 rfl (lv_at hl 2 rfl) ?_
        obtain ⟨hi_3, h⟩ := h
        refine vi_ald hx hb hK hP 1 1 rfl rfl hi_3 rfl dX1_isInPart_12 ?_
        obtain ⟨hp_4, hn_4⟩ := h
        refine lv_if_eq (tgt := 37) hx hb dX1_isInPart_13 (by decide) (fun hc => ?_) (fun hc => ?_)
        · have h := hp_4 hc
          refine lv_iinc (v := x2_1 + (1 : Int32)) (lv' := [(2, .int (x2_1 + (1 : Int32))), (0, .ref q_t), (1, .int a1)]) hx hb dX1_isInPart_37 hl (k := 2) rfl rfl (by decide) rfl (fun ls hl => ?_)
          refine lv_goto (tgt := 2) hx hb dX1_isInPart_40 (by decide) ?_
          exact ih_2 (x2_1 + (1 : Int32)) _ _ _ h hP hD hS (lv_sub hl [1, 2, 0] rfl)
        · have h := hn_4 hc
          refine lv_aload_n hx hb dX1_isInPart_16 rfl (lv_at hl 0 rfl) ?_
          refine va_get (v := .ref q_t_words) hx hb hts iX1 hown hK hP 0 rfl rfl 7 (by decide) (hts _ mX1_isInPart_1) (fun _ h9 => h9) rfl dX1_isInPart_17 ?_
          refine lv_iload_n hx hb dX1_isInPart_20 rfl (lv_at hl 2 rfl) ?_
          obtain ⟨hi_5, h⟩ := h
          refine vi_ald hx hb hK hP 1 1 rfl rfl hi_5 rfl dX1_isInPart_21 ?_
          refine lv_iload_n hx hb dX1_isInPart_22 rfl (lv_at hl 1 rfl) ?_
          refine vc_SI (As := [.int (t_words (x2_1.toNatClampNeg)), .int a1]) (rest := []) (wr := [(q_t, .inr (1, [.int t_factorCount, .int t_termCount, .int t_trialCount, .int t_seenCount, .long t_seenSquares, .ref q_t_terms, .ref q_t_times, .ref q_t_words, .ref q_t_wordMarks, .ref q_t_seenTimes, .ref q_t_seenSums])), (q_t_words, .inl (cI, 4, .inl t_words)), (q_t_wordMarks, .inl (cI, 4, .inl t_wordMarks))]) ⟨hx, hb, hml, hown, hts⟩ (ctX1_markOf l D cB cI cJ cZ cR tz (t_words (x2_1.toNatClampNeg)) a1 _ h) (va_cwS 2 hts gX1_isInPart_X1_markOf rfl rfl rfl hdX1_markOf.2 ⟨Nat.le_of_ble_eq_true rfl, Nat.le_of_ble_eq_true rfl⟩) hK hP hD hS hA hT [] [0, 1, 2] rfl rfl rfl rfl (by decide) rfl rfl hl.1 (Nat.le_of_ble_eq_true rfl) dX1_isInPart_23 ⟨Nat.le_of_ble_eq_true rfl, Nat.le_of_ble_eq_true rfl⟩ (fun r_6 u9 H locs h hP hD hS => ?_)
          have hP : va_P D vwCl ([(q_t, .inr (1, [.int t_factorCount, .int t_termCount, .int t_trialCount, .int t_seenCount, .long t_seenSquares, .ref q_t_terms, .ref q_t_times, .ref q_t_words, .ref q_t_wordMarks, .ref q_t_seenTimes, .ref q_t_seenSums])), (q_t_words, .inl (cI, 4, .inl t_words)), (q_t_wordMarks, .inl (cI, 4, .inl t_wordMarks))]) H := hP.sub [0, 1, 2] rfl
          have hD : va_D A ([(q_t, .inr (1, [.int t_factorCount, .int t_termCount, .int t_trialCount, .int t_seenCount, .long t_seenSquares, .ref q_t_terms, .ref q_t_times, .ref q_t_words, .ref q_t_wordMarks, .ref q_t_seenTimes, .ref q_t_seenSums])), (q_t_words, .inl (cI, 4, .inl t_words)), (q_t_wordMarks, .inl (cI, 4, .inl t_wordMarks))]) := hD.sub [0, 1, 2] rfl rfl
          try dsimp only at h
          refine lv_aload_n hx hb dX1_isInPart_26 rfl (lv_at hl 0 rfl) ?_
          refine va_get (v := .ref q_t_wordMarks) hx hb hts iX1 hown hK hP 0 rfl rfl 8 (by decide) (hts _ mX1_isInPart_2) (fun _ h9 => h9) rfl dX1_isInPart_27 ?_
          refine lv_iload_n hx hb dX1_isInPart_30 rfl (lv_at hl 2 rfl) ?_
          obtain ⟨hi_7, h⟩ := h
          refine vi_ald hx hb hK hP 2 1 rfl rfl hi_7 rfl dX1_isInPart_31 ?_
          obtain ⟨hp_8, hn_8⟩ := h
          refine lv_icmp_eq (tgt := 37) hx hb dX1_isInPart_32 (by decide) (fun hc => ?_) (fun hc => ?_)
          · have h := hp_8 hc
            refine lv_iinc (v := x2_1 + (1 : Int32)) (lv' := [(2, .int (x2_1 + (1 : Int32))), (0, .ref q_t), (1, .int a1)]) hx hb dX1_isInPart_37 hl (k := 2) rfl rfl (by decide) rfl (fun ls hl => ?_)
            refine lv_goto (tgt := 2) hx hb dX1_isInPart_40 (by decide) ?_
            exact ih_2 (x2_1 + (1 : Int32)) _ _ _ h hP hD hS (lv_sub hl [1, 2, 0] rfl)
          · have h := hn_8 hc
            refine lv_iconst (v := 0) hx hb dX1_isInPart_35 (by decide) ?_
            subst hQ
            exact vr_Z (v := (0 : Int32)) () hx hb hr hlk rfl hP hD hS [0, 1, 2] rfl rfl h dX1_isInPart_36
  obtain ⟨n_2, h⟩ := h
  exact hL_2 n_2 (0 : Int32) _ _ _ h hP hD hS (lv_sub hl [1, 2, 0] rfl)
abbrev rmX1_hasMember : Room := { frames := 0, cells := 0, slots := 0, locals := 0 }
set_option maxHeartbeats 4000000 in
set_option maxRecDepth 100000 in
theorem ctX1_hasMember (l : Launch) (D : va_G) (cB cI cJ cZ cR : ClassId) (tz : Nat) (a1 : Int64) (a2 : Int32) (k : Int32 → Prop) (h : wpX1_hasMember a1 a2 k) : MI l yX1_hasMember wsX1_hasMember rmX1_hasMember D (vTy cB cI cJ cZ cR) tz [.long a1, .int a2] ([]) (fun (r : Int32) (u : Unit) => k r) (fun (u : Unit) => []) 0 0 := by
  refine MI.of (cc := cX1_hasMember) (maxL := 3) (ret := (some .boolean)) (by decide) rfl (Nat.le_of_ble_eq_true rfl) ?_
  intro p e s m args below meth c A ls Q hQ E
  obtain ⟨hx, hb, hml, hr, hts, hown, hlk, hin, hP, hK, hD, hS, hA, hT, hl⟩ := E
  have hown : s.vm.findClass RX1 = some m.cls := hown
  have hl : lv_has ls 3 [(0, .long a1), (2, .int a2)] := hl
  unfold wpX1_hasMember at h
  refine lv_lload_n hx hb dX1_hasMember_0 rfl (lv_at hl 0 rfl) ?_
  refine lv_iload_n hx hb dX1_hasMember_1 rfl (lv_at hl 1 rfl) ?_
  refine lv_lushr hx hb dX1_hasMember_2 rfl ?_
  refine lv_lconst (v := 1) hx hb dX1_hasMember_3 (by decide) ?_
  refine lv_land hx hb dX1_hasMember_4 ?_
  refine lv_lconst (v := 0) hx hb dX1_hasMember_5 (by decide) ?_
  refine W.lcmp hx hb dX1_hasMember_6 ?_
  obtain ⟨hp_1, hn_1⟩ := h
  refine lv_if_eq (tgt := 14) hx hb dX1_hasMember_7 (by decide) (fun hc => ?_) (fun hc => ?_)
  · have h := hp_1 ((lg_cmp_eq (((a1.toUInt64 >>> (a2.toInt64.toUInt64 &&& Int64.toUInt64 63)).toInt64) &&& (1 : Int64)) (0 : Int64)).mp hc)
    refine lv_iconst (v := 0) hx hb dX1_hasMember_14 (by decide) ?_
    subst hQ
    exact vr_Z (v := (0 : Int32)) () hx hb hr hlk rfl hP hD hS [] rfl rfl h dX1_hasMember_15
  · have h := hn_1 (fun q => hc ((lg_cmp_eq (((a1.toUInt64 >>> (a2.toInt64.toUInt64 &&& Int64.toUInt64 63)).toInt64) &&& (1 : Int64)) (0 : Int64)).mpr q))
    refine lv_iconst (v := 1) hx hb dX1_hasMember_10 (by decide) ?_
    refine lv_goto (tgt := 15) hx hb dX1_hasMember_11 (by decide) ?_
    subst hQ
    exact vr_Z (v := (1 : Int32)) () hx hb hr hlk rfl hP hD hS [] rfl rfl h dX1_hasMember_15
abbrev rmX1_multiplied : Room := { frames := 1, cells := 0, slots := 0, locals := 22 }
set_option maxHeartbeats 4000000 in
set_option maxRecDepth 100000 in
theorem ctX1_multiplied (l : Launch) (D : va_G) (cB cI cJ cZ cR : ClassId) (tz : Nat) (a1 : Int64) (a2 : Int32) (k : Int64 → Prop) (h : wpX1_multiplied a1 a2 k) : ML l yX1_multiplied wsX1_multiplied rmX1_multiplied D (vTy cB cI cJ cZ cR) tz [.long a1, .int a2] ([]) (fun (r : Int64) (u : Unit) => k r) (fun (u : Unit) => []) 0 0 := by
  refine ML.of (cc := cX1_multiplied) (maxL := 6) (ret := (some .long)) (by decide) rfl (Nat.le_of_ble_eq_true rfl) ?_
  intro p e s m args below meth c A ls Q hQ E
  obtain ⟨hx, hb, hml, hr, hts, hown, hlk, hin, hP, hK, hD, hS, hA, hT, hl⟩ := E
  have hown : s.vm.findClass RX1 = some m.cls := hown
  have hl : lv_has ls 6 [(0, .long a1), (2, .int a2)] := hl
  unfold wpX1_multiplied at h
  refine lv_lconst (v := 0) hx hb dX1_multiplied_0 (by decide) ?_
  refine lv_lstore_n (lv' := [(3, .long (0 : Int64)), (0, .long a1), (2, .int a2)]) hx hb dX1_multiplied_1 rfl hl (by decide) rfl (fun ls hl => ?_)
  refine lv_iconst (v := 0) hx hb dX1_multiplied_2 (by decide) ?_
  refine lv_istore (lv' := [(5, .int (0 : Int32)), (3, .long (0 : Int64)), (0, .long a1), (2, .int a2)]) hx hb dX1_multiplied_3 hl (by decide) rfl (fun ls hl => ?_)
  have hL_5 : ∀ (n_5 : Nat) (x3_1 : Int64) (x5_2 : Int32) (H : Heap) (locs : List Loc) (ls : Array Slot), wl (wbX1_multiplied_5 a1 a2 k) n_5 (x3_1, x5_2) → va_P D vwCl ([]) H → va_D A ([]) → va_S A s.heap H locs → lv_has ls 6 [(0, .long a1), (2, .int a2), (3, .long x3_1), (5, .int x5_2)] → W p l e rmX1_multiplied s m args below meth c H locs 0 0 Q (F0 m 5 ls []) := by
    intro n_5
    induction n_5 with
    | zero => intro x3_1 x5_2 H locs ls h; exact h.elim
    | succ n_5 ih_5 =>
      intro x3_1 x5_2 H locs ls h hP hD hS hl
      rw [wl, wbX1_multiplied_5] at h
      refine lv_iload hx hb dX1_multiplied_5 (lv_at hl 3 rfl) ?_
      refine lv_bipush (v := 64) hx hb dX1_multiplied_7 (by decide) ?_
      obtain ⟨hp_3, hn_3⟩ := h
      refine lv_icmp_ge (tgt := 36) hx hb dX1_multiplied_9 (by decide) (fun hc => ?_) (fun hc => ?_)
      · have h := hp_3 hc
        refine lv_lload_n hx hb dX1_multiplied_36 rfl (lv_at hl 2 rfl) ?_
        subst hQ
        exact vr_L (v := x3_1) () hx hb hr hlk hP hD hS [] rfl rfl h dX1_multiplied_37
      · have h := hn_3 hc
        refine lv_lload_n hx hb dX1_multiplied_12 rfl (lv_at hl 0 rfl) ?_
        refine lv_iload hx hb dX1_multiplied_13 (lv_at hl 3 rfl) ?_
        refine vc_SI (As := [.long a1, .int x5_2]) (rest := []) (wr := []) ⟨hx, hb, hml, hown, hts⟩ (ctX1_hasMember l D cB cI cJ cZ cR tz a1 x5_2 _ h) (va_cwS 2 hts gX1_multiplied_X1_hasMember rfl rfl rfl hdX1_hasMember.2 ⟨Nat.le_of_ble_eq_true rfl, Nat.le_of_ble_eq_true rfl⟩) hK hP hD hS hA hT [] [] rfl rfl rfl rfl (by decide) rfl rfl hl.1 (Nat.le_of_ble_eq_true rfl) dX1_multiplied_15 ⟨Nat.le_of_ble_eq_true rfl, Nat.le_of_ble_eq_true rfl⟩ (fun r_4 u9 H locs h hP hD hS => ?_)
        have hP : va_P D vwCl ([]) H := hP.sub [] rfl
        have hD : va_D A ([]) := hD.sub [] rfl rfl
        try dsimp only at h
        obtain ⟨hp_5, hn_5⟩ := h
        refine lv_if_eq (tgt := 30) hx hb dX1_multiplied_18 (by decide) (fun hc => ?_) (fun hc => ?_)
        · have h := hp_5 hc
          refine lv_iinc (v := x5_2 + (1 : Int32)) (lv' := [(5, .int (x5_2 + (1 : Int32))), (0, .long a1), (2, .int a2), (3, .long x3_1)]) hx hb dX1_multiplied_30 hl (k := 3) rfl rfl (by decide) rfl (fun ls hl => ?_)
          refine lv_goto (tgt := 5) hx hb dX1_multiplied_33 (by decide) ?_
          exact ih_5 x3_1 (x5_2 + (1 : Int32)) _ _ _ h hP hD hS (lv_sub hl [1, 2, 3, 0] rfl)
        · have h := hn_5 hc
          refine lv_lload_n hx hb dX1_multiplied_21 rfl (lv_at hl 2 rfl) ?_
          refine lv_lconst (v := 1) hx hb dX1_multiplied_22 (by decide) ?_
          refine lv_iload hx hb dX1_multiplied_23 (lv_at hl 3 rfl) ?_
          refine lv_iload_n hx hb dX1_multiplied_25 rfl (lv_at hl 1 rfl) ?_
          refine lv_ixor hx hb dX1_multiplied_26 ?_
          refine lv_lshl hx hb dX1_multiplied_27 rfl ?_
          refine lv_lor hx hb dX1_multiplied_28 ?_
          refine lv_lstore_n (lv' := [(3, .long (x3_1 ||| ((1 : Int64) <<< ((x5_2 ^^^ a2).toInt64 &&& 63)))), (0, .long a1), (2, .int a2), (5, .int x5_2)]) hx hb dX1_multiplied_29 rfl hl (by decide) rfl (fun ls hl => ?_)
          refine lv_iinc (v := x5_2 + (1 : Int32)) (lv' := [(5, .int (x5_2 + (1 : Int32))), (3, .long (x3_1 ||| ((1 : Int64) <<< ((x5_2 ^^^ a2).toInt64 &&& 63)))), (0, .long a1), (2, .int a2)]) hx hb dX1_multiplied_30 hl (k := 3) rfl rfl (by decide) rfl (fun ls hl => ?_)
          refine lv_goto (tgt := 5) hx hb dX1_multiplied_33 (by decide) ?_
          exact ih_5 (x3_1 ||| ((1 : Int64) <<< ((x5_2 ^^^ a2).toInt64 &&& 63))) (x5_2 + (1 : Int32)) _ _ _ h hP hD hS (lv_sub hl [2, 3, 1, 0] rfl)
  obtain ⟨n_5, h⟩ := h
  exact hL_5 n_5 (0 : Int64) (0 : Int32) _ _ _ h hP hD hS (lv_sub hl [2, 3, 1, 0] rfl)
theorem mX1_productsWithout_1 : Cond.fieldLink RX1 18 "TrialDesk$Desk" "words" "[I" ∈ wsX1_productsWithout := List.mem_of_getElem? (i := 1) (by decide +kernel)
abbrev rmX1_productsWithout : Room := { frames := 2, cells := 0, slots := 0, locals := 47 }
set_option maxHeartbeats 4000000 in
set_option maxRecDepth 100000 in
theorem ctX1_productsWithout (l : Launch) (D : va_G) (cB cI cJ cZ cR : ClassId) (tz : Nat) (q_t : Nat) (q_t_terms : Nat) (q_t_times : Nat) (q_t_words : Nat) (q_t_wordMarks : Nat) (q_t_seenTimes : Nat) (q_t_seenSums : Nat) (t_factorCount : Int32) (t_termCount : Int32) (t_trialCount : Int32) (t_seenCount : Int32) (t_seenSquares : Int64) (t_words : (Nat → Int32)) (a1 : Int32) (k : Int64 → Prop) (h : wpX1_productsWithout t_words a1 k) : ML l yX1_productsWithout wsX1_productsWithout rmX1_productsWithout D (vTy cB cI cJ cZ cR) tz [.ref q_t, .int a1] ([(q_t, .inr (1, [.int t_factorCount, .int t_termCount, .int t_trialCount, .int t_seenCount, .long t_seenSquares, .ref q_t_terms, .ref q_t_times, .ref q_t_words, .ref q_t_wordMarks, .ref q_t_seenTimes, .ref q_t_seenSums])), (q_t_words, .inl (cI, 4, .inl t_words))]) (fun (r : Int64) (u : Unit) => k r) (fun (u : Unit) => [(q_t, .inr (1, [.int t_factorCount, .int t_termCount, .int t_trialCount, .int t_seenCount, .long t_seenSquares, .ref q_t_terms, .ref q_t_times, .ref q_t_words, .ref q_t_wordMarks, .ref q_t_seenTimes, .ref q_t_seenSums])), (q_t_words, .inl (cI, 4, .inl t_words))]) 0 0 := by
  refine ML.of (cc := cX1_productsWithout) (maxL := 5) (ret := (some .long)) (by decide) rfl (Nat.le_of_ble_eq_true rfl) ?_
  intro p e s m args below meth c A ls Q hQ E
  obtain ⟨hx, hb, hml, hr, hts, hown, hlk, hin, hP, hK, hD, hS, hA, hT, hl⟩ := E
  have hown : s.vm.findClass RX1 = some m.cls := hown
  have hl : lv_has ls 5 [(0, .ref q_t), (1, .int a1)] := hl
  have iX1 : ∀ w ∈ wsX10, w ∈ wsX1_productsWithout := fun _ h => List.mem_cons_of_mem _ (List.mem_append_right _ h)
  unfold wpX1_productsWithout at h
  refine lv_lconst (v := 1) hx hb dX1_productsWithout_0 (by decide) ?_
  refine lv_lstore_n (lv' := [(2, .long (1 : Int64)), (0, .ref q_t), (1, .int a1)]) hx hb dX1_productsWithout_1 rfl hl (by decide) rfl (fun ls hl => ?_)
  refine lv_iconst (v := 0) hx hb dX1_productsWithout_2 (by decide) ?_
  refine lv_istore (lv' := [(4, .int (0 : Int32)), (2, .long (1 : Int64)), (0, .ref q_t), (1, .int a1)]) hx hb dX1_productsWithout_3 hl (by decide) rfl (fun ls hl => ?_)
  have hL_5 : ∀ (n_5 : Nat) (x2_1 : Int64) (x4_2 : Int32) (H : Heap) (locs : List Loc) (ls : Array Slot), wl (wbX1_productsWithout_5 t_words a1 k) n_5 (x2_1, x4_2) → va_P D vwCl ([(q_t, .inr (1, [.int t_factorCount, .int t_termCount, .int t_trialCount, .int t_seenCount, .long t_seenSquares, .ref q_t_terms, .ref q_t_times, .ref q_t_words, .ref q_t_wordMarks, .ref q_t_seenTimes, .ref q_t_seenSums])), (q_t_words, .inl (cI, 4, .inl t_words))]) H → va_D A ([(q_t, .inr (1, [.int t_factorCount, .int t_termCount, .int t_trialCount, .int t_seenCount, .long t_seenSquares, .ref q_t_terms, .ref q_t_times, .ref q_t_words, .ref q_t_wordMarks, .ref q_t_seenTimes, .ref q_t_seenSums])), (q_t_words, .inl (cI, 4, .inl t_words))]) → va_S A s.heap H locs → lv_has ls 5 [(0, .ref q_t), (1, .int a1), (2, .long x2_1), (4, .int x4_2)] → W p l e rmX1_productsWithout s m args below meth c H locs 0 0 Q (F0 m 5 ls []) := by
    intro n_5
    induction n_5 with
    | zero => intro x2_1 x4_2 H locs ls h; exact h.elim
    | succ n_5 ih_5 =>
      intro x2_1 x4_2 H locs ls h hP hD hS hl
      rw [wl, wbX1_productsWithout_5] at h
      refine lv_iload hx hb dX1_productsWithout_5 (lv_at hl 3 rfl) ?_
      refine lv_iconst (v := 4) hx hb dX1_productsWithout_7 (by decide) ?_
      obtain ⟨hp_3, hn_3⟩ := h
      refine lv_icmp_ge (tgt := 47) hx hb dX1_productsWithout_8 (by decide) (fun hc => ?_) (fun hc => ?_)
      · have h := hp_3 hc
        refine lv_lload_n hx hb dX1_productsWithout_47 rfl (lv_at hl 2 rfl) ?_
        subst hQ
        exact vr_L (v := x2_1) () hx hb hr hlk hP hD hS [0, 1] rfl rfl h dX1_productsWithout_48
      · have h := hn_3 hc
        refine lv_iload hx hb dX1_productsWithout_11 (lv_at hl 3 rfl) ?_
        refine lv_iload_n hx hb dX1_productsWithout_13 rfl (lv_at hl 1 rfl) ?_
        obtain ⟨hp_4, hn_4⟩ := h
        refine lv_icmp_eq (tgt := 41) hx hb dX1_productsWithout_14 (by decide) (fun hc => ?_) (fun hc => ?_)
        · have h := hp_4 hc
          refine lv_iinc (v := x4_2 + (1 : Int32)) (lv' := [(4, .int (x4_2 + (1 : Int32))), (0, .ref q_t), (1, .int a1), (2, .long x2_1)]) hx hb dX1_productsWithout_41 hl (k := 3) rfl rfl (by decide) rfl (fun ls hl => ?_)
          refine lv_goto (tgt := 5) hx hb dX1_productsWithout_44 (by decide) ?_
          exact ih_5 x2_1 (x4_2 + (1 : Int32)) _ _ _ h hP hD hS (lv_sub hl [1, 2, 3, 0] rfl)
        · have h := hn_4 hc
          refine lv_aload_n hx hb dX1_productsWithout_17 rfl (lv_at hl 0 rfl) ?_
          refine va_get (v := .ref q_t_words) hx hb hts iX1 hown hK hP 0 rfl rfl 7 (by decide) (hts _ mX1_productsWithout_1) (fun _ h9 => h9) rfl dX1_productsWithout_18 ?_
          refine lv_iload hx hb dX1_productsWithout_21 (lv_at hl 3 rfl) ?_
          obtain ⟨hi_5, h⟩ := h
          refine vi_ald hx hb hK hP 1 1 rfl rfl hi_5 rfl dX1_productsWithout_23 ?_
          obtain ⟨hp_6, hn_6⟩ := h
          refine lv_if_eq (tgt := 41) hx hb dX1_productsWithout_24 (by decide) (fun hc => ?_) (fun hc => ?_)
          · have h := hp_6 hc
            refine lv_iinc (v := x4_2 + (1 : Int32)) (lv' := [(4, .int (x4_2 + (1 : Int32))), (0, .ref q_t), (1, .int a1), (2, .long x2_1)]) hx hb dX1_productsWithout_41 hl (k := 3) rfl rfl (by decide) rfl (fun ls hl => ?_)
            refine lv_goto (tgt := 5) hx hb dX1_productsWithout_44 (by decide) ?_
            exact ih_5 x2_1 (x4_2 + (1 : Int32)) _ _ _ h hP hD hS (lv_sub hl [1, 2, 3, 0] rfl)
          · have h := hn_6 hc
            refine lv_lload_n hx hb dX1_productsWithout_27 rfl (lv_at hl 2 rfl) ?_
            refine lv_lload_n hx hb dX1_productsWithout_28 rfl (lv_at hl 2 rfl) ?_
            refine lv_aload_n hx hb dX1_productsWithout_29 rfl (lv_at hl 0 rfl) ?_
            refine va_get (v := .ref q_t_words) hx hb hts iX1 hown hK hP 0 rfl rfl 7 (by decide) (hts _ mX1_productsWithout_1) (fun _ h9 => h9) rfl dX1_productsWithout_30 ?_
            refine lv_iload hx hb dX1_productsWithout_33 (lv_at hl 3 rfl) ?_
            obtain ⟨hi_7, h⟩ := h
            refine vi_ald hx hb hK hP 1 1 rfl rfl hi_7 rfl dX1_productsWithout_35 ?_
            refine vc_SL (As := [.long x2_1, .int (t_words (x4_2.toNatClampNeg))]) (rest := [.long x2_1]) (wr := [(q_t, .inr (1, [.int t_factorCount, .int t_termCount, .int t_trialCount, .int t_seenCount, .long t_seenSquares, .ref q_t_terms, .ref q_t_times, .ref q_t_words, .ref q_t_wordMarks, .ref q_t_seenTimes, .ref q_t_seenSums])), (q_t_words, .inl (cI, 4, .inl t_words))]) ⟨hx, hb, hml, hown, hts⟩ (ctX1_multiplied l D cB cI cJ cZ cR tz x2_1 (t_words (x4_2.toNatClampNeg)) _ h) (va_cwS 2 hts gX1_productsWithout_X1_multiplied rfl rfl rfl hdX1_multiplied.2 ⟨Nat.le_of_ble_eq_true rfl, Nat.le_of_ble_eq_true rfl⟩) hK hP hD hS hA hT [] [0, 1] rfl rfl rfl rfl (by decide) rfl rfl hl.1 (Nat.le_of_ble_eq_true rfl) dX1_productsWithout_36 ⟨Nat.le_of_ble_eq_true rfl, Nat.le_of_ble_eq_true rfl⟩ (fun r_8 u9 H locs h hP hD hS => ?_)
            have hP : va_P D vwCl ([(q_t, .inr (1, [.int t_factorCount, .int t_termCount, .int t_trialCount, .int t_seenCount, .long t_seenSquares, .ref q_t_terms, .ref q_t_times, .ref q_t_words, .ref q_t_wordMarks, .ref q_t_seenTimes, .ref q_t_seenSums])), (q_t_words, .inl (cI, 4, .inl t_words))]) H := hP.sub [0, 1] rfl
            have hD : va_D A ([(q_t, .inr (1, [.int t_factorCount, .int t_termCount, .int t_trialCount, .int t_seenCount, .long t_seenSquares, .ref q_t_terms, .ref q_t_times, .ref q_t_words, .ref q_t_wordMarks, .ref q_t_seenTimes, .ref q_t_seenSums])), (q_t_words, .inl (cI, 4, .inl t_words))]) := hD.sub [0, 1] rfl rfl
            try dsimp only at h
            refine lv_lor hx hb dX1_productsWithout_39 ?_
            refine lv_lstore_n (lv' := [(2, .long (x2_1 ||| r_8)), (0, .ref q_t), (1, .int a1), (4, .int x4_2)]) hx hb dX1_productsWithout_40 rfl hl (by decide) rfl (fun ls hl => ?_)
            refine lv_iinc (v := x4_2 + (1 : Int32)) (lv' := [(4, .int (x4_2 + (1 : Int32))), (2, .long (x2_1 ||| r_8)), (0, .ref q_t), (1, .int a1)]) hx hb dX1_productsWithout_41 hl (k := 3) rfl rfl (by decide) rfl (fun ls hl => ?_)
            refine lv_goto (tgt := 5) hx hb dX1_productsWithout_44 (by decide) ?_
            exact ih_5 (x2_1 ||| r_8) (x4_2 + (1 : Int32)) _ _ _ h hP hD hS (lv_sub hl [2, 3, 1, 0] rfl)
  obtain ⟨n_5, h⟩ := h
  exact hL_5 n_5 (1 : Int64) (0 : Int32) _ _ _ h hP hD hS (lv_sub hl [2, 3, 1, 0] rfl)
theorem mX1_seeOne_1 : Cond.fieldLink RX1 24 "TrialDesk$Desk" "seenTimes" "[I" ∈ wsX1_seeOne := List.mem_of_getElem? (i := 1) (by decide +kernel)
theorem mX1_seeOne_2 : Cond.fieldLink RX1 27 "TrialDesk$Desk" "seenSums" "[I" ∈ wsX1_seeOne := List.mem_of_getElem? (i := 2) (by decide +kernel)
theorem mX1_seeOne_3 : Cond.fieldLink RX1 43 "TrialDesk$Desk" "seenSquares" "J" ∈ wsX1_seeOne := List.mem_of_getElem? (i := 3) (by decide +kernel)
theorem mX1_seeOne_4 : Cond.fieldLink RX1 40 "TrialDesk$Desk" "seenCount" "I" ∈ wsX1_seeOne := List.mem_of_getElem? (i := 4) (by decide +kernel)
abbrev rmX1_seeOne : Room := { frames := 0, cells := 0, slots := 0, locals := 0 }
set_option maxHeartbeats 4000000 in
set_option maxRecDepth 100000 in
theorem ctX1_seeOne (l : Launch) (D : va_G) (cB cI cJ cZ cR : ClassId) (tz : Nat) (q_t : Nat) (q_t_terms : Nat) (q_t_times : Nat) (q_t_words : Nat) (q_t_wordMarks : Nat) (q_t_seenTimes : Nat) (q_t_seenSums : Nat) (t_factorCount : Int32) (t_termCount : Int32) (t_trialCount : Int32) (t_seenCount : Int32) (t_seenSquares : Int64) (t_seenTimes : (Nat → Int32)) (t_seenSums : (Nat → Int32)) (a1 : Int32) (a2 : Int32) (k : Int32 → Int64 → (Nat → Int32) → (Nat → Int32) → Prop) (h : wpX1_seeOne t_seenCount t_seenSquares t_seenTimes t_seenSums a1 a2 k) : MV l yX1_seeOne wsX1_seeOne rmX1_seeOne D (vTy cB cI cJ cZ cR) tz [.ref q_t, .int a1, .int a2] ([(q_t, .inr (1, [.int t_factorCount, .int t_termCount, .int t_trialCount, .int t_seenCount, .long t_seenSquares, .ref q_t_terms, .ref q_t_times, .ref q_t_words, .ref q_t_wordMarks, .ref q_t_seenTimes, .ref q_t_seenSums])), (q_t_seenTimes, .inl (cI, 64, .inl t_seenTimes)), (q_t_seenSums, .inl (cI, 64, .inl t_seenSums))]) (fun (u : Int32 × Int64 × (Nat → Int32) × (Nat → Int32)) => k u.1 u.2.1 u.2.2.1 u.2.2.2) (fun (u : Int32 × Int64 × (Nat → Int32) × (Nat → Int32)) => [(q_t, .inr (1, [.int t_factorCount, .int t_termCount, .int t_trialCount, .int (u.1), .long (u.2.1), .ref q_t_terms, .ref q_t_times, .ref q_t_words, .ref q_t_wordMarks, .ref q_t_seenTimes, .ref q_t_seenSums])), (q_t_seenTimes, .inl (cI, 64, .inl (u.2.2.1))), (q_t_seenSums, .inl (cI, 64, .inl (u.2.2.2)))]) 0 0 := by
  refine MV.of (cc := cX1_seeOne) (maxL := 3) (ret := none) (by decide) rfl (Nat.le_of_ble_eq_true rfl) ?_
  intro p e s m args below meth c A ls Q hQ E
  obtain ⟨hx, hb, hml, hr, hts, hown, hlk, hin, hP, hK, hD, hS, hA, hT, hl⟩ := E
  have hown : s.vm.findClass RX1 = some m.cls := hown
  have hl : lv_has ls 3 [(0, .ref q_t), (1, .int a1), (2, .int a2)] := hl
  have iX1 : ∀ w ∈ wsX10, w ∈ wsX1_seeOne := fun _ h => List.mem_cons_of_mem _ (List.mem_append_right _ h)
  unfold wpX1_seeOne at h
  refine lv_aload_n hx hb dX1_seeOne_0 rfl (lv_at hl 0 rfl) ?_
  refine va_get (v := .ref q_t_seenTimes) hx hb hts iX1 hown hK hP 0 rfl rfl 9 (by decide) (hts _ mX1_seeOne_1) (fun _ h9 => h9) rfl dX1_seeOne_1 ?_
  refine lv_iload_n hx hb dX1_seeOne_4 rfl (lv_at hl 1 rfl) ?_
  refine lv_dup2_11 hx hb dX1_seeOne_5 rfl rfl ?_
  obtain ⟨hi_1, h⟩ := h
  refine vi_ald hx hb hK hP 1 1 rfl rfl hi_1 rfl dX1_seeOne_6 ?_
  refine lv_iconst (v := 1) hx hb dX1_seeOne_7 (by decide) ?_
  refine lv_iadd hx hb dX1_seeOne_8 ?_
  obtain ⟨hi_2, h⟩ := h
  refine vi_ast (x := (t_seenTimes (a1.toNatClampNeg)) + (1 : Int32)) hx hb hK hP hD hS 1 1 rfl rfl hi_2 rfl dX1_seeOne_9 (fun H locs hP hD hS => ?_)
  have hP : va_P D vwCl ([(q_t, .inr (1, [.int t_factorCount, .int t_termCount, .int t_trialCount, .int t_seenCount, .long t_seenSquares, .ref q_t_terms, .ref q_t_times, .ref q_t_words, .ref q_t_wordMarks, .ref q_t_seenTimes, .ref q_t_seenSums])), (q_t_seenTimes, .inl (cI, 64, .inl (upd t_seenTimes (a1.toNatClampNeg) ((t_seenTimes (a1.toNatClampNeg)) + (1 : Int32))))), (q_t_seenSums, .inl (cI, 64, .inl t_seenSums))]) H := hP
  have hD : va_D A ([(q_t, .inr (1, [.int t_factorCount, .int t_termCount, .int t_trialCount, .int t_seenCount, .long t_seenSquares, .ref q_t_terms, .ref q_t_times, .ref q_t_words, .ref q_t_wordMarks, .ref q_t_seenTimes, .ref q_t_seenSums])), (q_t_seenTimes, .inl (cI, 64, .inl (upd t_seenTimes (a1.toNatClampNeg) ((t_seenTimes (a1.toNatClampNeg)) + (1 : Int32))))), (q_t_seenSums, .inl (cI, 64, .inl t_seenSums))]) := hD
  refine lv_aload_n hx hb dX1_seeOne_10 rfl (lv_at hl 0 rfl) ?_
  refine va_get (v := .ref q_t_seenSums) hx hb hts iX1 hown hK hP 0 rfl rfl 10 (by decide) (hts _ mX1_seeOne_2) (fun _ h9 => h9) rfl dX1_seeOne_11 ?_
  refine lv_iload_n hx hb dX1_seeOne_14 rfl (lv_at hl 1 rfl) ?_
  refine lv_dup2_11 hx hb dX1_seeOne_15 rfl rfl ?_
  obtain ⟨hi_3, h⟩ := h
  refine vi_ald hx hb hK hP 2 1 rfl rfl hi_3 rfl dX1_seeOne_16 ?_
  refine lv_iload_n hx hb dX1_seeOne_17 rfl (lv_at hl 2 rfl) ?_
  refine lv_iadd hx hb dX1_seeOne_18 ?_
  obtain ⟨hi_4, h⟩ := h
  refine vi_ast (x := (t_seenSums (a1.toNatClampNeg)) + a2) hx hb hK hP hD hS 2 1 rfl rfl hi_4 rfl dX1_seeOne_19 (fun H locs hP hD hS => ?_)
  have hP : va_P D vwCl ([(q_t, .inr (1, [.int t_factorCount, .int t_termCount, .int t_trialCount, .int t_seenCount, .long t_seenSquares, .ref q_t_terms, .ref q_t_times, .ref q_t_words, .ref q_t_wordMarks, .ref q_t_seenTimes, .ref q_t_seenSums])), (q_t_seenTimes, .inl (cI, 64, .inl (upd t_seenTimes (a1.toNatClampNeg) ((t_seenTimes (a1.toNatClampNeg)) + (1 : Int32))))), (q_t_seenSums, .inl (cI, 64, .inl (upd t_seenSums (a1.toNatClampNeg) ((t_seenSums (a1.toNatClampNeg)) + a2))))]) H := hP
  have hD : va_D A ([(q_t, .inr (1, [.int t_factorCount, .int t_termCount, .int t_trialCount, .int t_seenCount, .long t_seenSquares, .ref q_t_terms, .ref q_t_times, .ref q_t_words, .ref q_t_wordMarks, .ref q_t_seenTimes, .ref q_t_seenSums])), (q_t_seenTimes, .inl (cI, 64, .inl (upd t_seenTimes (a1.toNatClampNeg) ((t_seenTimes (a1.toNatClampNeg)) + (1 : Int32))))), (q_t_seenSums, .inl (cI, 64, .inl (upd t_seenSums (a1.toNatClampNeg) ((t_seenSums (a1.toNatClampNeg)) + a2))))]) := hD
  refine lv_aload_n hx hb dX1_seeOne_20 rfl (lv_at hl 0 rfl) ?_
  refine lv_dup hx hb dX1_seeOne_21 rfl ?_
  refine va_get (v := .long t_seenSquares) hx hb hts iX1 hown hK hP 0 rfl rfl 4 (by decide) (hts _ mX1_seeOne_3) (fun _ h9 => h9) rfl dX1_seeOne_22 ?_
  refine lv_iload_n hx hb dX1_seeOne_25 rfl (lv_at hl 2 rfl) ?_
  refine lv_iload_n hx hb dX1_seeOne_26 rfl (lv_at hl 2 rfl) ?_
  refine lv_imul hx hb dX1_seeOne_27 ?_
  refine lv_i2l hx hb dX1_seeOne_28 rfl ?_
  refine lv_ladd hx hb dX1_seeOne_29 ?_
  refine va_put (v := .long (t_seenSquares + ((a2 * a2).toInt64))) (ty := .long) hx hb hts iX1 tyX1 tyX1_ok nmX1 hown hK hP hD hS 0 rfl rfl 4 (by decide) (hts _ mX1_seeOne_3) (fun _ h9 => h9) rfl (tyX1_ok 4 (by decide)) rfl rfl (Nat.le_of_ble_eq_true rfl) dX1_seeOne_30 (fun H locs hP hD hS => ?_)
  have hP : va_P D vwCl ([(q_t, .inr (1, [.int t_factorCount, .int t_termCount, .int t_trialCount, .int t_seenCount, .long (t_seenSquares + ((a2 * a2).toInt64)), .ref q_t_terms, .ref q_t_times, .ref q_t_words, .ref q_t_wordMarks, .ref q_t_seenTimes, .ref q_t_seenSums])), (q_t_seenTimes, .inl (cI, 64, .inl (upd t_seenTimes (a1.toNatClampNeg) ((t_seenTimes (a1.toNatClampNeg)) + (1 : Int32))))), (q_t_seenSums, .inl (cI, 64, .inl (upd t_seenSums (a1.toNatClampNeg) ((t_seenSums (a1.toNatClampNeg)) + a2))))]) H := hP
  have hD : va_D A ([(q_t, .inr (1, [.int t_factorCount, .int t_termCount, .int t_trialCount, .int t_seenCount, .long (t_seenSquares + ((a2 * a2).toInt64)), .ref q_t_terms, .ref q_t_times, .ref q_t_words, .ref q_t_wordMarks, .ref q_t_seenTimes, .ref q_t_seenSums])), (q_t_seenTimes, .inl (cI, 64, .inl (upd t_seenTimes (a1.toNatClampNeg) ((t_seenTimes (a1.toNatClampNeg)) + (1 : Int32))))), (q_t_seenSums, .inl (cI, 64, .inl (upd t_seenSums (a1.toNatClampNeg) ((t_seenSums (a1.toNatClampNeg)) + a2))))]) := hD
  refine lv_aload_n hx hb dX1_seeOne_33 rfl (lv_at hl 0 rfl) ?_
  refine lv_dup hx hb dX1_seeOne_34 rfl ?_
  refine va_get (v := .int t_seenCount) hx hb hts iX1 hown hK hP 0 rfl rfl 3 (by decide) (hts _ mX1_seeOne_4) (fun _ h9 => h9) rfl dX1_seeOne_35 ?_
  refine lv_iconst (v := 1) hx hb dX1_seeOne_38 (by decide) ?_
  refine lv_iadd hx hb dX1_seeOne_39 ?_
  refine va_put (v := .int (t_seenCount + (1 : Int32))) (ty := .int) hx hb hts iX1 tyX1 tyX1_ok nmX1 hown hK hP hD hS 0 rfl rfl 3 (by decide) (hts _ mX1_seeOne_4) (fun _ h9 => h9) rfl (tyX1_ok 3 (by decide)) rfl rfl (Nat.le_of_ble_eq_true rfl) dX1_seeOne_40 (fun H locs hP hD hS => ?_)
  have hP : va_P D vwCl ([(q_t, .inr (1, [.int t_factorCount, .int t_termCount, .int t_trialCount, .int (t_seenCount + (1 : Int32)), .long (t_seenSquares + ((a2 * a2).toInt64)), .ref q_t_terms, .ref q_t_times, .ref q_t_words, .ref q_t_wordMarks, .ref q_t_seenTimes, .ref q_t_seenSums])), (q_t_seenTimes, .inl (cI, 64, .inl (upd t_seenTimes (a1.toNatClampNeg) ((t_seenTimes (a1.toNatClampNeg)) + (1 : Int32))))), (q_t_seenSums, .inl (cI, 64, .inl (upd t_seenSums (a1.toNatClampNeg) ((t_seenSums (a1.toNatClampNeg)) + a2))))]) H := hP
  have hD : va_D A ([(q_t, .inr (1, [.int t_factorCount, .int t_termCount, .int t_trialCount, .int (t_seenCount + (1 : Int32)), .long (t_seenSquares + ((a2 * a2).toInt64)), .ref q_t_terms, .ref q_t_times, .ref q_t_words, .ref q_t_wordMarks, .ref q_t_seenTimes, .ref q_t_seenSums])), (q_t_seenTimes, .inl (cI, 64, .inl (upd t_seenTimes (a1.toNatClampNeg) ((t_seenTimes (a1.toNatClampNeg)) + (1 : Int32))))), (q_t_seenSums, .inl (cI, 64, .inl (upd t_seenSums (a1.toNatClampNeg) ((t_seenSums (a1.toNatClampNeg)) + a2))))]) := hD
  subst hQ
  exact vr_V (t_seenCount + (1 : Int32), t_seenSquares + ((a2 * a2).toInt64), upd t_seenTimes (a1.toNatClampNeg) ((t_seenTimes (a1.toNatClampNeg)) + (1 : Int32)), upd t_seenSums (a1.toNatClampNeg) ((t_seenSums (a1.toNatClampNeg)) + a2)) hx hb hr hlk hP hD hS [0, 1, 2] rfl rfl h dX1_seeOne_43
