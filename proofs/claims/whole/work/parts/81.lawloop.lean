theorem lw_cmp {L k : Nat} (hL : L ≤ 3584) (hk : 7 * k ≤ L) : (nI L - 7 < nI (7 * k)) ↔ L < 7 * k + 7 := by
  have h1 : (nI L - nI 7).toInt = (L : Int) - (7 : Nat) := pk_sub_toInt (by omega) (by omega)
  have h2 : (nI (7 * k)).toInt = ((7 * k : Nat) : Int) := nI_toInt (by omega)
  rw [Int32.lt_iff_toInt_lt]
  show (nI L - nI 7).toInt < _ ↔ _
  rw [h1, h2]
  omega

/-- what stands between two calls' rounds: the law's own end of a round -/
theorem law_next {p : Program} {l : Launch} {e : Env} {s : State} {m : MethodId} {below : List Frame} {meth : Method} {c : Code} {b L : Nat} {sc : Nat → Int32} (C0 : lw_At p s m meth c b L sc) (q hq q2 : Nat → Nat) (k cs ss : Nat) (H : Heap) (locs : List Loc) (ls : Array Slot) (hl : lv_has ls 4 [(0, .ref b), (1, .ref (q 0)), (2, .ref (q2 0)), (3, .int (nI (7 * k)))])
    (hn : ∀ ls : Array Slot, lv_has ls 4 [(0, .ref b), (1, .ref (q 0)), (2, .ref (q2 0)), (3, .int (nI (7 * (k + 1))))] → W p l e room_1 s m #[Value.ref b] below meth c H locs cs ss (lw_Z below #[Value.ref b] s) (F0 m 18 ls [])) : W p l e room_1 s m #[Value.ref b] below meth c H locs cs ss (lw_Z below #[Value.ref b] s) (F0 m 993 ls []) := by
  obtain ⟨hx, hb, hr, hml, hown, hts0, hX, hbl, hlocks, hgv⟩ := C0
  refine lv_iinc (v := nI (7 * (k + 1))) (lv' := [(3, .int (nI (7 * (k + 1)))), (0, .ref b), (1, .ref (q 0)), (2, .ref (q2 0))]) hx hb dL_law_993 hl (k := 3) rfl (by show nI (7 * k) + nI 7 = _; rw [nI_add]; rfl) (by decide) rfl (fun ls hl => ?_)
  refine lv_goto (tgt := 18) hx hb dL_law_996 (by decide) ?_
  exact hn ls (lv_sub hl [1, 2, 3, 0] rfl)

set_option maxHeartbeats 4000000 in
set_option maxRecDepth 100000 in
theorem law_loop {p : Program} {l : Launch} {e : Env} {s : State} {m : MethodId} {below : List Frame} {meth : Method} {c : Code} {D : va_G} {cB cI cJ cZ cR : ClassId} {tz b L : Nat} {sc : Nat → Int32} {A : Nat → Prop} (hL : L ≤ 3584) (C0 : lw_At p s m meth c b L sc) (hA : ∀ q, s.heap.size ≤ q → A q) (hAi : ∀ q, A q → s.heap.size ≤ q) (hbA : ¬ A b) (hK : va_K D vwCl (vTy cB cI cJ cZ cR) s) (hT : vST tz A s s.heap) (q hq q2 : Nat → Nat) :
    ∀ (n k : Nat) (x : XS) (y : MS), LInv x y → 7 * k ≤ L → L ≤ 7 * k + n → ∀ (H : Heap) (locs : List Loc) (ls : Array Slot), va_P D vwCl (WX q hq cB cI cJ cZ cR x ++ WM q2 hq cB cI cJ cZ cR y) H → va_D A (WX q hq cB cI cJ cZ cR x ++ WM q2 hq cB cI cJ cZ cR y) → va_S A s.heap H locs → lv_has ls 4 [(0, .ref b), (1, .ref (q 0)), (2, .ref (q2 0)), (3, .int (nI (7 * k)))] → W p l e room_1 s m #[Value.ref b] below meth c H locs (200 + k) (60000 + pot x) (lw_Z below #[Value.ref b] s) (F0 m 18 ls []) := by
  have C1 := C0
  obtain ⟨hx, hb, hr, hml, hown, hts0, hX, hbl, hlocks, hgv⟩ := C1
  intro n
  induction n with
  | zero =>
    intro k x y hI hk hn H locs ls hP hD hS hl
    have hpx := lb_pot x y hI
    refine lv_iload_n hx hb dL_law_18 rfl (lv_at hl 3 rfl) ?_
    refine lv_aload_n hx hb dL_law_19 rfl (lv_at hl 0 rfl) ?_
    refine va_slen hx hb hX hbl hbA hS dL_law_20 ?_
    refine lv_bipush (v := 7) hx hb dL_law_21 (by decide) ?_
    refine lv_isub hx hb dL_law_23 ?_
    refine lv_icmp_gt (tgt := 999) hx hb dL_law_24 (by decide) (fun hc => ?_) (fun hc => absurd ((lw_cmp hL hk).mpr (by omega)) hc)
    refine lv_iconst (v := 1) hx hb dL_law_999 (by decide) ?_
    refine va_forget (fun q hq => hAi _ (hS.2.2 q hq)) ?_
    refine W.widen (k := 600000) (n := 7302250) (by omega) (by omega) ?_
    exact lw_ret hx hb hr hlocks dL_law_1000
  | succ n ih =>
    intro k x y hI hk hn H locs ls hP hD hS hl
    have hpx := lb_pot x y hI
    refine lv_iload_n hx hb dL_law_18 rfl (lv_at hl 3 rfl) ?_
    refine lv_aload_n hx hb dL_law_19 rfl (lv_at hl 0 rfl) ?_
    refine va_slen hx hb hX hbl hbA hS dL_law_20 ?_
    refine lv_bipush (v := 7) hx hb dL_law_21 (by decide) ?_
    refine lv_isub hx hb dL_law_23 ?_
    refine lv_icmp_gt (tgt := 999) hx hb dL_law_24 (by decide) (fun hc => ?_) (fun hc => ?_)
    · refine lv_iconst (v := 1) hx hb dL_law_999 (by decide) ?_
      refine va_forget (fun q hq => hAi _ (hS.2.2 q hq)) ?_
      refine W.widen (k := 600000) (n := 7302250) (by omega) (by omega) ?_
      exact lw_ret hx hb hr hlocks dL_law_1000
    · have hk2 : 7 * (k + 1) ≤ L := by
        rcases Nat.lt_or_ge L (7 * k + 7) with h9 | h9
        · exact absurd ((lw_cmp hL hk).mpr h9) hc
        · omega
      have hi : ∀ d, d < 7 → vp_in (nI (7 * k) + nI d) L := fun d hd => by rw [nI_add]; exact vp_in_nI (by omega) (by omega)
      refine lv_aload_n hx hb dL_law_27 rfl (lv_at hl 0 rfl) ?_
      refine lv_iload_n hx hb dL_law_28 rfl (lv_at hl 3 rfl) ?_
      refine va_sld hx hb hX hbl hbA hS (vp_in_nI (by omega) (by omega)) dL_law_29 ?_
      refine lv_bipush (v := 31) hx hb dL_law_30 (by decide) ?_
      refine lv_iand hx hb dL_law_32 ?_
      rcases vsw 29 (by decide) (sc (nI (7 * k)).toNatClampNeg &&& 31) with ⟨j9, hj9, ej9⟩ | ej9
      · match j9, hj9, ej9 with
        | 0, _, ej9 =>
          obtain ⟨bud, hbud, h⟩ := lb_step_0 x y (sc ((nI (7 * k) + (1 : Int32)).toNatClampNeg)) hI
          refine lv_tableIn (tgt := 168) hx hb dL_law_33 (by rw [ej9]; decide) (by rw [ej9]; decide) (by rw [ej9]; rfl) (by decide) ?_
          exact lawc_0 C0 hA hbA hK hT q hq q2 x y (nI (7 * k)) hi bud (200 + k) (60000 + pot x) ⟨by omega, by omega⟩ (fun x9 y9 => LInv x9 y9 ∧ pot x + bud ≤ pot x9) h (fun x9 y9 H locs ls hz hP hD hS hl => law_next C0 q hq q2 k _ _ H locs ls hl (fun ls hl => W.widen (k := 200 + (k + 1)) (n := 60000 + pot x9) (by omega) (by have := hz.2; omega) (ih (k + 1) x9 y9 hz.1 hk2 (by omega) H locs ls hP hD hS hl))) H locs ls hP hD hS hl
        | 1, _, ej9 =>
          obtain ⟨bud, hbud, h⟩ := lb_step_1 x y (sc ((nI (7 * k) + (1 : Int32)).toNatClampNeg)) hI
          refine lv_tableIn (tgt := 191) hx hb dL_law_33 (by rw [ej9]; decide) (by rw [ej9]; decide) (by rw [ej9]; rfl) (by decide) ?_
          exact lawc_1 C0 hA hbA hK hT q hq q2 x y (nI (7 * k)) hi bud (200 + k) (60000 + pot x) ⟨by omega, by omega⟩ (fun x9 y9 => LInv x9 y9 ∧ pot x + bud ≤ pot x9) h (fun x9 y9 H locs ls hz hP hD hS hl => law_next C0 q hq q2 k _ _ H locs ls hl (fun ls hl => W.widen (k := 200 + (k + 1)) (n := 60000 + pot x9) (by omega) (by have := hz.2; omega) (ih (k + 1) x9 y9 hz.1 hk2 (by omega) H locs ls hP hD hS hl))) H locs ls hP hD hS hl
        | 2, _, ej9 =>
          obtain ⟨bud, hbud, h⟩ := lb_step_2 x y (sc ((nI (7 * k) + (1 : Int32)).toNatClampNeg)) hI
          refine lv_tableIn (tgt := 214) hx hb dL_law_33 (by rw [ej9]; decide) (by rw [ej9]; decide) (by rw [ej9]; rfl) (by decide) ?_
          exact lawc_2 C0 hA hbA hK hT q hq q2 x y (nI (7 * k)) hi bud (200 + k) (60000 + pot x) ⟨by omega, by omega⟩ (fun x9 y9 => LInv x9 y9 ∧ pot x + bud ≤ pot x9) h (fun x9 y9 H locs ls hz hP hD hS hl => law_next C0 q hq q2 k _ _ H locs ls hl (fun ls hl => W.widen (k := 200 + (k + 1)) (n := 60000 + pot x9) (by omega) (by have := hz.2; omega) (ih (k + 1) x9 y9 hz.1 hk2 (by omega) H locs ls hP hD hS hl))) H locs ls hP hD hS hl
        | 3, _, ej9 =>
          obtain ⟨bud, hbud, h⟩ := lb_step_3 x y (sc ((nI (7 * k) + (1 : Int32)).toNatClampNeg)) (sc ((nI (7 * k) + (2 : Int32)).toNatClampNeg)) hI
          refine lv_tableIn (tgt := 237) hx hb dL_law_33 (by rw [ej9]; decide) (by rw [ej9]; decide) (by rw [ej9]; rfl) (by decide) ?_
          exact lawc_3 C0 hA hbA hK hT q hq q2 x y (nI (7 * k)) hi bud (200 + k) (60000 + pot x) ⟨by omega, by omega⟩ (fun x9 y9 => LInv x9 y9 ∧ pot x + bud ≤ pot x9) h (fun x9 y9 H locs ls hz hP hD hS hl => law_next C0 q hq q2 k _ _ H locs ls hl (fun ls hl => W.widen (k := 200 + (k + 1)) (n := 60000 + pot x9) (by omega) (by have := hz.2; omega) (ih (k + 1) x9 y9 hz.1 hk2 (by omega) H locs ls hP hD hS hl))) H locs ls hP hD hS hl
        | 4, _, ej9 =>
          obtain ⟨bud, hbud, h⟩ := lb_step_4 x y  hI
          refine lv_tableIn (tgt := 270) hx hb dL_law_33 (by rw [ej9]; decide) (by rw [ej9]; decide) (by rw [ej9]; rfl) (by decide) ?_
          exact lawc_4 C0 hA hbA hK hT q hq q2 x y (nI (7 * k)) hi bud (200 + k) (60000 + pot x) ⟨by omega, by omega⟩ (fun x9 y9 => LInv x9 y9 ∧ pot x + bud ≤ pot x9) h (fun x9 y9 H locs ls hz hP hD hS hl => law_next C0 q hq q2 k _ _ H locs ls hl (fun ls hl => W.widen (k := 200 + (k + 1)) (n := 60000 + pot x9) (by omega) (by have := hz.2; omega) (ih (k + 1) x9 y9 hz.1 hk2 (by omega) H locs ls hP hD hS hl))) H locs ls hP hD hS hl
        | 5, _, ej9 =>
          obtain ⟨bud, hbud, h⟩ := lb_step_5 x y (sc ((nI (7 * k) + (1 : Int32)).toNatClampNeg)) hI
          refine lv_tableIn (tgt := 281) hx hb dL_law_33 (by rw [ej9]; decide) (by rw [ej9]; decide) (by rw [ej9]; rfl) (by decide) ?_
          exact lawc_5 C0 hA hbA hK hT q hq q2 x y (nI (7 * k)) hi bud (200 + k) (60000 + pot x) ⟨by omega, by omega⟩ (fun x9 y9 => LInv x9 y9 ∧ pot x + bud ≤ pot x9) h (fun x9 y9 H locs ls hz hP hD hS hl => law_next C0 q hq q2 k _ _ H locs ls hl (fun ls hl => W.widen (k := 200 + (k + 1)) (n := 60000 + pot x9) (by omega) (by have := hz.2; omega) (ih (k + 1) x9 y9 hz.1 hk2 (by omega) H locs ls hP hD hS hl))) H locs ls hP hD hS hl
        | 6, _, ej9 =>
          obtain ⟨bud, hbud, h⟩ := lb_step_6 x y (sc ((nI (7 * k) + (1 : Int32)).toNatClampNeg)) (sc ((nI (7 * k) + (2 : Int32)).toNatClampNeg)) hI
          refine lv_tableIn (tgt := 304) hx hb dL_law_33 (by rw [ej9]; decide) (by rw [ej9]; decide) (by rw [ej9]; rfl) (by decide) ?_
          exact lawc_6 C0 hA hbA hK hT q hq q2 x y (nI (7 * k)) hi bud (200 + k) (60000 + pot x) ⟨by omega, by omega⟩ (fun x9 y9 => LInv x9 y9 ∧ pot x + bud ≤ pot x9) h (fun x9 y9 H locs ls hz hP hD hS hl => law_next C0 q hq q2 k _ _ H locs ls hl (fun ls hl => W.widen (k := 200 + (k + 1)) (n := 60000 + pot x9) (by omega) (by have := hz.2; omega) (ih (k + 1) x9 y9 hz.1 hk2 (by omega) H locs ls hP hD hS hl))) H locs ls hP hD hS hl
        | 7, _, ej9 =>
          obtain ⟨bud, hbud, h⟩ := lb_step_7 x y (sc ((nI (7 * k) + (1 : Int32)).toNatClampNeg)) (sc ((nI (7 * k) + (2 : Int32)).toNatClampNeg)) hI
          refine lv_tableIn (tgt := 337) hx hb dL_law_33 (by rw [ej9]; decide) (by rw [ej9]; decide) (by rw [ej9]; rfl) (by decide) ?_
          exact lawc_7 C0 hA hbA hK hT q hq q2 x y (nI (7 * k)) hi bud (200 + k) (60000 + pot x) ⟨by omega, by omega⟩ (fun x9 y9 => LInv x9 y9 ∧ pot x + bud ≤ pot x9) h (fun x9 y9 H locs ls hz hP hD hS hl => law_next C0 q hq q2 k _ _ H locs ls hl (fun ls hl => W.widen (k := 200 + (k + 1)) (n := 60000 + pot x9) (by omega) (by have := hz.2; omega) (ih (k + 1) x9 y9 hz.1 hk2 (by omega) H locs ls hP hD hS hl))) H locs ls hP hD hS hl
        | 8, _, ej9 =>
          obtain ⟨bud, hbud, h⟩ := lb_step_8 x y  hI
          refine lv_tableIn (tgt := 370) hx hb dL_law_33 (by rw [ej9]; decide) (by rw [ej9]; decide) (by rw [ej9]; rfl) (by decide) ?_
          exact lawc_8 C0 hA hbA hK hT q hq q2 x y (nI (7 * k)) hi bud (200 + k) (60000 + pot x) ⟨by omega, by omega⟩ (fun x9 y9 => LInv x9 y9 ∧ pot x + bud ≤ pot x9) h (fun x9 y9 H locs ls hz hP hD hS hl => law_next C0 q hq q2 k _ _ H locs ls hl (fun ls hl => W.widen (k := 200 + (k + 1)) (n := 60000 + pot x9) (by omega) (by have := hz.2; omega) (ih (k + 1) x9 y9 hz.1 hk2 (by omega) H locs ls hP hD hS hl))) H locs ls hP hD hS hl
        | 9, _, ej9 =>
          obtain ⟨bud, hbud, h⟩ := lb_step_9 x y (sc ((nI (7 * k) + (1 : Int32)).toNatClampNeg)) (sc ((nI (7 * k) + (2 : Int32)).toNatClampNeg)) (sc ((nI (7 * k) + (3 : Int32)).toNatClampNeg)) (sc ((nI (7 * k) + (4 : Int32)).toNatClampNeg)) (sc ((nI (7 * k) + (5 : Int32)).toNatClampNeg)) hI
          refine lv_tableIn (tgt := 384) hx hb dL_law_33 (by rw [ej9]; decide) (by rw [ej9]; decide) (by rw [ej9]; rfl) (by decide) ?_
          exact lawc_9 C0 hA hbA hK hT q hq q2 x y (nI (7 * k)) hi bud (200 + k) (60000 + pot x) ⟨by omega, by omega⟩ (fun x9 y9 => LInv x9 y9 ∧ pot x + bud ≤ pot x9) h (fun x9 y9 H locs ls hz hP hD hS hl => law_next C0 q hq q2 k _ _ H locs ls hl (fun ls hl => W.widen (k := 200 + (k + 1)) (n := 60000 + pot x9) (by omega) (by have := hz.2; omega) (ih (k + 1) x9 y9 hz.1 hk2 (by omega) H locs ls hP hD hS hl))) H locs ls hP hD hS hl
        | 10, _, ej9 =>
          obtain ⟨bud, hbud, h⟩ := lb_step_10 x y (sc ((nI (7 * k) + (1 : Int32)).toNatClampNeg)) (sc ((nI (7 * k) + (2 : Int32)).toNatClampNeg)) (sc ((nI (7 * k) + (3 : Int32)).toNatClampNeg)) (sc ((nI (7 * k) + (4 : Int32)).toNatClampNeg)) (sc ((nI (7 * k) + (5 : Int32)).toNatClampNeg)) (sc ((nI (7 * k) + (6 : Int32)).toNatClampNeg)) hI
          refine lv_tableIn (tgt := 447) hx hb dL_law_33 (by rw [ej9]; decide) (by rw [ej9]; decide) (by rw [ej9]; rfl) (by decide) ?_
          exact lawc_10 C0 hA hbA hK hT q hq q2 x y (nI (7 * k)) hi bud (200 + k) (60000 + pot x) ⟨by omega, by omega⟩ (fun x9 y9 => LInv x9 y9 ∧ pot x + bud ≤ pot x9) h (fun x9 y9 H locs ls hz hP hD hS hl => law_next C0 q hq q2 k _ _ H locs ls hl (fun ls hl => W.widen (k := 200 + (k + 1)) (n := 60000 + pot x9) (by omega) (by have := hz.2; omega) (ih (k + 1) x9 y9 hz.1 hk2 (by omega) H locs ls hP hD hS hl))) H locs ls hP hD hS hl
        | 11, _, ej9 =>
          obtain ⟨bud, hbud, h⟩ := lb_step_11 x y (sc ((nI (7 * k) + (1 : Int32)).toNatClampNeg)) hI
          refine lv_tableIn (tgt := 523) hx hb dL_law_33 (by rw [ej9]; decide) (by rw [ej9]; decide) (by rw [ej9]; rfl) (by decide) ?_
          exact lawc_11 C0 hA hbA hK hT q hq q2 x y (nI (7 * k)) hi bud (200 + k) (60000 + pot x) ⟨by omega, by omega⟩ (fun x9 y9 => LInv x9 y9 ∧ pot x + bud ≤ pot x9) h (fun x9 y9 H locs ls hz hP hD hS hl => law_next C0 q hq q2 k _ _ H locs ls hl (fun ls hl => W.widen (k := 200 + (k + 1)) (n := 60000 + pot x9) (by omega) (by have := hz.2; omega) (ih (k + 1) x9 y9 hz.1 hk2 (by omega) H locs ls hP hD hS hl))) H locs ls hP hD hS hl
        | 12, _, ej9 =>
          obtain ⟨bud, hbud, h⟩ := lb_step_12 x y  hI
          refine lv_tableIn (tgt := 547) hx hb dL_law_33 (by rw [ej9]; decide) (by rw [ej9]; decide) (by rw [ej9]; rfl) (by decide) ?_
          exact lawc_12 C0 hA hbA hK hT q hq q2 x y (nI (7 * k)) hi bud (200 + k) (60000 + pot x) ⟨by omega, by omega⟩ (fun x9 y9 => LInv x9 y9 ∧ pot x + bud ≤ pot x9) h (fun x9 y9 H locs ls hz hP hD hS hl => law_next C0 q hq q2 k _ _ H locs ls hl (fun ls hl => W.widen (k := 200 + (k + 1)) (n := 60000 + pot x9) (by omega) (by have := hz.2; omega) (ih (k + 1) x9 y9 hz.1 hk2 (by omega) H locs ls hP hD hS hl))) H locs ls hP hD hS hl
        | 13, _, ej9 =>
          obtain ⟨bud, hbud, h⟩ := lb_step_13 x y (sc ((nI (7 * k) + (1 : Int32)).toNatClampNeg)) hI
          refine lv_tableIn (tgt := 560) hx hb dL_law_33 (by rw [ej9]; decide) (by rw [ej9]; decide) (by rw [ej9]; rfl) (by decide) ?_
          exact lawc_13 C0 hA hbA hK hT q hq q2 x y (nI (7 * k)) hi bud (200 + k) (60000 + pot x) ⟨by omega, by omega⟩ (fun x9 y9 => LInv x9 y9 ∧ pot x + bud ≤ pot x9) h (fun x9 y9 H locs ls hz hP hD hS hl => law_next C0 q hq q2 k _ _ H locs ls hl (fun ls hl => W.widen (k := 200 + (k + 1)) (n := 60000 + pot x9) (by omega) (by have := hz.2; omega) (ih (k + 1) x9 y9 hz.1 hk2 (by omega) H locs ls hP hD hS hl))) H locs ls hP hD hS hl
        | 14, _, ej9 =>
          obtain ⟨bud, hbud, h⟩ := lb_step_14 x y (sc ((nI (7 * k) + (1 : Int32)).toNatClampNeg)) hI
          refine lv_tableIn (tgt := 583) hx hb dL_law_33 (by rw [ej9]; decide) (by rw [ej9]; decide) (by rw [ej9]; rfl) (by decide) ?_
          exact lawc_14 C0 hA hbA hK hT q hq q2 x y (nI (7 * k)) hi bud (200 + k) (60000 + pot x) ⟨by omega, by omega⟩ (fun x9 y9 => LInv x9 y9 ∧ pot x + bud ≤ pot x9) h (fun x9 y9 H locs ls hz hP hD hS hl => law_next C0 q hq q2 k _ _ H locs ls hl (fun ls hl => W.widen (k := 200 + (k + 1)) (n := 60000 + pot x9) (by omega) (by have := hz.2; omega) (ih (k + 1) x9 y9 hz.1 hk2 (by omega) H locs ls hP hD hS hl))) H locs ls hP hD hS hl
        | 15, _, ej9 =>
          obtain ⟨bud, hbud, h⟩ := lb_step_15 x y  hI
          refine lv_tableIn (tgt := 606) hx hb dL_law_33 (by rw [ej9]; decide) (by rw [ej9]; decide) (by rw [ej9]; rfl) (by decide) ?_
          exact lawc_15 C0 hA hbA hK hT q hq q2 x y (nI (7 * k)) hi bud (200 + k) (60000 + pot x) ⟨by omega, by omega⟩ (fun x9 y9 => LInv x9 y9 ∧ pot x + bud ≤ pot x9) h (fun x9 y9 H locs ls hz hP hD hS hl => law_next C0 q hq q2 k _ _ H locs ls hl (fun ls hl => W.widen (k := 200 + (k + 1)) (n := 60000 + pot x9) (by omega) (by have := hz.2; omega) (ih (k + 1) x9 y9 hz.1 hk2 (by omega) H locs ls hP hD hS hl))) H locs ls hP hD hS hl
        | 16, _, ej9 =>
          obtain ⟨bud, hbud, h⟩ := lb_step_16 x y  hI
          refine lv_tableIn (tgt := 619) hx hb dL_law_33 (by rw [ej9]; decide) (by rw [ej9]; decide) (by rw [ej9]; rfl) (by decide) ?_
          exact lawc_16 C0 hA hbA hK hT q hq q2 x y (nI (7 * k)) hi bud (200 + k) (60000 + pot x) ⟨by omega, by omega⟩ (fun x9 y9 => LInv x9 y9 ∧ pot x + bud ≤ pot x9) h (fun x9 y9 H locs ls hz hP hD hS hl => law_next C0 q hq q2 k _ _ H locs ls hl (fun ls hl => W.widen (k := 200 + (k + 1)) (n := 60000 + pot x9) (by omega) (by have := hz.2; omega) (ih (k + 1) x9 y9 hz.1 hk2 (by omega) H locs ls hP hD hS hl))) H locs ls hP hD hS hl
        | 17, _, ej9 =>
          obtain ⟨bud, hbud, h⟩ := lb_step_17 x y (sc ((nI (7 * k) + (1 : Int32)).toNatClampNeg)) (sc ((nI (7 * k) + (2 : Int32)).toNatClampNeg)) (sc ((nI (7 * k) + (3 : Int32)).toNatClampNeg)) hI
          refine lv_tableIn (tgt := 632) hx hb dL_law_33 (by rw [ej9]; decide) (by rw [ej9]; decide) (by rw [ej9]; rfl) (by decide) ?_
          exact lawc_17 C0 hA hbA hK hT q hq q2 x y (nI (7 * k)) hi bud (200 + k) (60000 + pot x) ⟨by omega, by omega⟩ (fun x9 y9 => LInv x9 y9 ∧ pot x + bud ≤ pot x9) h (fun x9 y9 H locs ls hz hP hD hS hl => law_next C0 q hq q2 k _ _ H locs ls hl (fun ls hl => W.widen (k := 200 + (k + 1)) (n := 60000 + pot x9) (by omega) (by have := hz.2; omega) (ih (k + 1) x9 y9 hz.1 hk2 (by omega) H locs ls hP hD hS hl))) H locs ls hP hD hS hl
        | 18, _, ej9 =>
          obtain ⟨bud, hbud, h⟩ := lb_step_18 x y (sc ((nI (7 * k) + (1 : Int32)).toNatClampNeg)) hI
          refine lv_tableIn (tgt := 675) hx hb dL_law_33 (by rw [ej9]; decide) (by rw [ej9]; decide) (by rw [ej9]; rfl) (by decide) ?_
          exact lawc_18 C0 hA hbA hK hT q hq q2 x y (nI (7 * k)) hi bud (200 + k) (60000 + pot x) ⟨by omega, by omega⟩ (fun x9 y9 => LInv x9 y9 ∧ pot x + bud ≤ pot x9) h (fun x9 y9 H locs ls hz hP hD hS hl => law_next C0 q hq q2 k _ _ H locs ls hl (fun ls hl => W.widen (k := 200 + (k + 1)) (n := 60000 + pot x9) (by omega) (by have := hz.2; omega) (ih (k + 1) x9 y9 hz.1 hk2 (by omega) H locs ls hP hD hS hl))) H locs ls hP hD hS hl
        | 19, _, ej9 =>
          obtain ⟨bud, hbud, h⟩ := lb_step_19 x y (sc ((nI (7 * k) + (1 : Int32)).toNatClampNeg)) hI
          refine lv_tableIn (tgt := 698) hx hb dL_law_33 (by rw [ej9]; decide) (by rw [ej9]; decide) (by rw [ej9]; rfl) (by decide) ?_
          exact lawc_19 C0 hA hbA hK hT q hq q2 x y (nI (7 * k)) hi bud (200 + k) (60000 + pot x) ⟨by omega, by omega⟩ (fun x9 y9 => LInv x9 y9 ∧ pot x + bud ≤ pot x9) h (fun x9 y9 H locs ls hz hP hD hS hl => law_next C0 q hq q2 k _ _ H locs ls hl (fun ls hl => W.widen (k := 200 + (k + 1)) (n := 60000 + pot x9) (by omega) (by have := hz.2; omega) (ih (k + 1) x9 y9 hz.1 hk2 (by omega) H locs ls hP hD hS hl))) H locs ls hP hD hS hl
        | 20, _, ej9 =>
          obtain ⟨bud, hbud, h⟩ := lb_step_20 x y (sc ((nI (7 * k) + (1 : Int32)).toNatClampNeg)) (sc ((nI (7 * k) + (2 : Int32)).toNatClampNeg)) hI
          refine lv_tableIn (tgt := 721) hx hb dL_law_33 (by rw [ej9]; decide) (by rw [ej9]; decide) (by rw [ej9]; rfl) (by decide) ?_
          exact lawc_20 C0 hA hbA hK hT q hq q2 x y (nI (7 * k)) hi bud (200 + k) (60000 + pot x) ⟨by omega, by omega⟩ (fun x9 y9 => LInv x9 y9 ∧ pot x + bud ≤ pot x9) h (fun x9 y9 H locs ls hz hP hD hS hl => law_next C0 q hq q2 k _ _ H locs ls hl (fun ls hl => W.widen (k := 200 + (k + 1)) (n := 60000 + pot x9) (by omega) (by have := hz.2; omega) (ih (k + 1) x9 y9 hz.1 hk2 (by omega) H locs ls hP hD hS hl))) H locs ls hP hD hS hl
        | 21, _, ej9 =>
          obtain ⟨bud, hbud, h⟩ := lb_step_21 x y (sc ((nI (7 * k) + (1 : Int32)).toNatClampNeg)) hI
          refine lv_tableIn (tgt := 754) hx hb dL_law_33 (by rw [ej9]; decide) (by rw [ej9]; decide) (by rw [ej9]; rfl) (by decide) ?_
          exact lawc_21 C0 hA hbA hK hT q hq q2 x y (nI (7 * k)) hi bud (200 + k) (60000 + pot x) ⟨by omega, by omega⟩ (fun x9 y9 => LInv x9 y9 ∧ pot x + bud ≤ pot x9) h (fun x9 y9 H locs ls hz hP hD hS hl => law_next C0 q hq q2 k _ _ H locs ls hl (fun ls hl => W.widen (k := 200 + (k + 1)) (n := 60000 + pot x9) (by omega) (by have := hz.2; omega) (ih (k + 1) x9 y9 hz.1 hk2 (by omega) H locs ls hP hD hS hl))) H locs ls hP hD hS hl
        | 22, _, ej9 =>
          obtain ⟨bud, hbud, h⟩ := lb_step_22 x y (sc ((nI (7 * k) + (1 : Int32)).toNatClampNeg)) hI
          refine lv_tableIn (tgt := 777) hx hb dL_law_33 (by rw [ej9]; decide) (by rw [ej9]; decide) (by rw [ej9]; rfl) (by decide) ?_
          exact lawc_22 C0 hA hbA hK hT q hq q2 x y (nI (7 * k)) hi bud (200 + k) (60000 + pot x) ⟨by omega, by omega⟩ (fun x9 y9 => LInv x9 y9 ∧ pot x + bud ≤ pot x9) h (fun x9 y9 H locs ls hz hP hD hS hl => law_next C0 q hq q2 k _ _ H locs ls hl (fun ls hl => W.widen (k := 200 + (k + 1)) (n := 60000 + pot x9) (by omega) (by have := hz.2; omega) (ih (k + 1) x9 y9 hz.1 hk2 (by omega) H locs ls hP hD hS hl))) H locs ls hP hD hS hl
        | 23, _, ej9 =>
          obtain ⟨bud, hbud, h⟩ := lb_step_23 x y  hI
          refine lv_tableIn (tgt := 800) hx hb dL_law_33 (by rw [ej9]; decide) (by rw [ej9]; decide) (by rw [ej9]; rfl) (by decide) ?_
          exact lawc_23 C0 hA hbA hK hT q hq q2 x y (nI (7 * k)) hi bud (200 + k) (60000 + pot x) ⟨by omega, by omega⟩ (fun x9 y9 => LInv x9 y9 ∧ pot x + bud ≤ pot x9) h (fun x9 y9 H locs ls hz hP hD hS hl => law_next C0 q hq q2 k _ _ H locs ls hl (fun ls hl => W.widen (k := 200 + (k + 1)) (n := 60000 + pot x9) (by omega) (by have := hz.2; omega) (ih (k + 1) x9 y9 hz.1 hk2 (by omega) H locs ls hP hD hS hl))) H locs ls hP hD hS hl
        | 24, _, ej9 =>
          obtain ⟨bud, hbud, h⟩ := lb_step_24 x y (sc ((nI (7 * k) + (1 : Int32)).toNatClampNeg)) hI
          refine lv_tableIn (tgt := 813) hx hb dL_law_33 (by rw [ej9]; decide) (by rw [ej9]; decide) (by rw [ej9]; rfl) (by decide) ?_
          exact lawc_24 C0 hA hbA hK hT q hq q2 x y (nI (7 * k)) hi bud (200 + k) (60000 + pot x) ⟨by omega, by omega⟩ (fun x9 y9 => LInv x9 y9 ∧ pot x + bud ≤ pot x9) h (fun x9 y9 H locs ls hz hP hD hS hl => law_next C0 q hq q2 k _ _ H locs ls hl (fun ls hl => W.widen (k := 200 + (k + 1)) (n := 60000 + pot x9) (by omega) (by have := hz.2; omega) (ih (k + 1) x9 y9 hz.1 hk2 (by omega) H locs ls hP hD hS hl))) H locs ls hP hD hS hl
        | 25, _, ej9 =>
          obtain ⟨bud, hbud, h⟩ := lb_step_25 x y (sc ((nI (7 * k) + (1 : Int32)).toNatClampNeg)) (sc ((nI (7 * k) + (2 : Int32)).toNatClampNeg)) hI
          refine lv_tableIn (tgt := 836) hx hb dL_law_33 (by rw [ej9]; decide) (by rw [ej9]; decide) (by rw [ej9]; rfl) (by decide) ?_
          exact lawc_25 C0 hA hbA hK hT q hq q2 x y (nI (7 * k)) hi bud (200 + k) (60000 + pot x) ⟨by omega, by omega⟩ (fun x9 y9 => LInv x9 y9 ∧ pot x + bud ≤ pot x9) h (fun x9 y9 H locs ls hz hP hD hS hl => law_next C0 q hq q2 k _ _ H locs ls hl (fun ls hl => W.widen (k := 200 + (k + 1)) (n := 60000 + pot x9) (by omega) (by have := hz.2; omega) (ih (k + 1) x9 y9 hz.1 hk2 (by omega) H locs ls hP hD hS hl))) H locs ls hP hD hS hl
        | 26, _, ej9 =>
          obtain ⟨bud, hbud, h⟩ := lb_step_26 x y  hI
          refine lv_tableIn (tgt := 869) hx hb dL_law_33 (by rw [ej9]; decide) (by rw [ej9]; decide) (by rw [ej9]; rfl) (by decide) ?_
          exact lawc_26 C0 hA hbA hK hT q hq q2 x y (nI (7 * k)) hi bud (200 + k) (60000 + pot x) ⟨by omega, by omega⟩ (fun x9 y9 => LInv x9 y9 ∧ pot x + bud ≤ pot x9) h (fun x9 y9 H locs ls hz hP hD hS hl => law_next C0 q hq q2 k _ _ H locs ls hl (fun ls hl => W.widen (k := 200 + (k + 1)) (n := 60000 + pot x9) (by omega) (by have := hz.2; omega) (ih (k + 1) x9 y9 hz.1 hk2 (by omega) H locs ls hP hD hS hl))) H locs ls hP hD hS hl
        | 27, _, ej9 =>
          obtain ⟨bud, hbud, h⟩ := lb_step_27 x y (sc ((nI (7 * k) + (1 : Int32)).toNatClampNeg)) (sc ((nI (7 * k) + (2 : Int32)).toNatClampNeg)) (sc ((nI (7 * k) + (3 : Int32)).toNatClampNeg)) (sc ((nI (7 * k) + (4 : Int32)).toNatClampNeg)) (sc ((nI (7 * k) + (5 : Int32)).toNatClampNeg)) (sc ((nI (7 * k) + (6 : Int32)).toNatClampNeg)) hI
          refine lv_tableIn (tgt := 880) hx hb dL_law_33 (by rw [ej9]; decide) (by rw [ej9]; decide) (by rw [ej9]; rfl) (by decide) ?_
          exact lawc_27 C0 hA hbA hK hT q hq q2 x y (nI (7 * k)) hi bud (200 + k) (60000 + pot x) ⟨by omega, by omega⟩ (fun x9 y9 => LInv x9 y9 ∧ pot x + bud ≤ pot x9) h (fun x9 y9 H locs ls hz hP hD hS hl => law_next C0 q hq q2 k _ _ H locs ls hl (fun ls hl => W.widen (k := 200 + (k + 1)) (n := 60000 + pot x9) (by omega) (by have := hz.2; omega) (ih (k + 1) x9 y9 hz.1 hk2 (by omega) H locs ls hP hD hS hl))) H locs ls hP hD hS hl
        | 28, _, ej9 =>
          obtain ⟨bud, hbud, h⟩ := lb_step_28 x y (sc ((nI (7 * k) + (1 : Int32)).toNatClampNeg)) hI
          refine lv_tableIn (tgt := 956) hx hb dL_law_33 (by rw [ej9]; decide) (by rw [ej9]; decide) (by rw [ej9]; rfl) (by decide) ?_
          exact lawc_28 C0 hA hbA hK hT q hq q2 x y (nI (7 * k)) hi bud (200 + k) (60000 + pot x) ⟨by omega, by omega⟩ (fun x9 y9 => LInv x9 y9 ∧ pot x + bud ≤ pot x9) h (fun x9 y9 H locs ls hz hP hD hS hl => law_next C0 q hq q2 k _ _ H locs ls hl (fun ls hl => W.widen (k := 200 + (k + 1)) (n := 60000 + pot x9) (by omega) (by have := hz.2; omega) (ih (k + 1) x9 y9 hz.1 hk2 (by omega) H locs ls hP hD hS hl))) H locs ls hP hD hS hl
        | 29, _, ej9 =>
          obtain ⟨bud, hbud, h⟩ := lb_step_29 x y  hI
          refine lv_tableIn (tgt := 980) hx hb dL_law_33 (by rw [ej9]; decide) (by rw [ej9]; decide) (by rw [ej9]; rfl) (by decide) ?_
          exact lawc_29 C0 hA hbA hK hT q hq q2 x y (nI (7 * k)) hi bud (200 + k) (60000 + pot x) ⟨by omega, by omega⟩ (fun x9 y9 => LInv x9 y9 ∧ pot x + bud ≤ pot x9) h (fun x9 y9 H locs ls hz hP hD hS hl => law_next C0 q hq q2 k _ _ H locs ls hl (fun ls hl => W.widen (k := 200 + (k + 1)) (n := 60000 + pot x9) (by omega) (by have := hz.2; omega) (ih (k + 1) x9 y9 hz.1 hk2 (by omega) H locs ls hP hD hS hl))) H locs ls hP hD hS hl
        | (j9 + 30), hj9, _ => exact absurd hj9 (by omega)
      · refine lv_tableOut (tgt := 993) hx hb dL_law_33 ej9 (by decide) ?_
        exact law_next C0 q hq q2 k _ _ H locs ls hl (fun ls hl => W.widen (k := 200 + (k + 1)) (n := 60000 + pot x) (by omega) (by omega) (ih (k + 1) x y hI hk2 (by omega) H locs ls hP hD hS hl))
