/-! the steps length, part -/
theorem W_members {K : Nat} (hK : K ≤ 6) {wo : Nat → Nat} (hw : ∀ i, wo i < 2 ^ K) (hin : IN wo) {w : Nat} (h1 : 1 ≤ w) : (cn (fun j => pc (pf wo 4 4 j)) w (2 ^ pn wo 4 4) : Int) = sm (2 ^ K - 1) (fun i => ind (sp wo 4 4 (i + 1)) * (if pc (i + 1) = w then 1 else 0)) := by
  rw [cn_sm, pf_sum hw hin 4 (by omega) (fun t => if pc t = w then 1 else 0)]
  have hp := Nat.two_pow_pos K
  rw [show 2 ^ K = 1 + (2 ^ K - 1) by omega, sm_split]
  rw [show sm 1 (fun t => ind (sp wo 4 4 t) * (if pc t = w then 1 else 0)) = 0 by
    simp only [sm, Int.zero_add]
    rw [if_neg (show ¬ pc 0 = w by show ¬ 0 = w; omega)]; simp, Int.zero_add]
  rw [show 1 + (2 ^ K - 1) - 1 = 2 ^ K - 1 by omega]
  exact sm_congr (fun i _ => by rw [Nat.add_comm 1 i])
theorem sm_pos_ex : ∀ {n : Nat} {f : Nat → Int}, (∀ i, i < n → 0 ≤ f i) → sm n f ≠ 0 → ∃ i, i < n ∧ f i ≠ 0
  | 0, _, _, h => absurd rfl h
  | n + 1, f, h0, h => by
    by_cases e : f n = 0
    · obtain ⟨i, hi, h1⟩ := sm_pos_ex (n := n) (f := f) (fun i hi => h0 i (by omega)) (by rw [sm, e] at h; simpa using h)
      exact ⟨i, by omega, h1⟩
    · exact ⟨n, by omega, e⟩
theorem sm_ge : ∀ {n : Nat} {f : Nat → Int}, (∀ i, i < n → 0 ≤ f i) → ∀ {i}, i < n → f i ≤ sm n f
  | 0, _, _, _, h => absurd h (Nat.not_lt_zero _)
  | n + 1, f, h0, i, hi => by
    rw [sm]
    by_cases e : i = n
    · subst e; have := sm_nonneg i f (fun j hj => h0 j (by omega)); omega
    · have := sm_ge (n := n) (f := f) (fun j hj => h0 j (by omega)) (i := i) (by omega)
      have := h0 n (by omega); omega
theorem lb_step_21 (x : XS) (y : MS) (a1 : Int32) (h : LInv x y) : ∃ bud, bud ≤ 49152 ∧ wpL_21 x y a1 bud (fun x9 y9 => LInv x9 y9 ∧ pot x + bud ≤ pot x9) := by
  refine ⟨0, by omega, ?_⟩
  obtain ⟨hB, hH, hP, hC⟩ := h
  obtain ⟨K, n, te, ti, wo, mk, c, pl, rd, hV, hD, hbg⟩ := BR_open hB
  have hV' := hV
  obtain ⟨⟨hK1, hK6⟩, ⟨hn1, hn5⟩, hte, hdi, hti, htz, htot, hwo, hin, hmk, hc, hpl, hrd⟩ := hV'
  have hD' := hD
  obtain ⟨d1, d2, d3, d4, d5, d6, d7, d8, d9, d10, d11⟩ := hD'
  have h64 := p64 hK6
  have hw6 : ∀ i, wo i < 64 := fun i => by have := hwo i; omega
  have hpS := Nat.two_pow_pos K
  unfold wpL_21 wpX6_length
  refine ⟨fun z1 => ?_, fun z1 => ⟨fun z2 => ?_, fun z2 => ?_⟩⟩
  · unfold wpM_21 wpX7_length
    exact hbg _ (fun g b hb hG => ⟨fun _ => ⟨fun _ => ⟨⟨Or.inl ⟨hb, K, n, te, ti, wo, mk, c, pl, rd, hV, hD, hG⟩, hH, hP, hC⟩, Nat.le_refl _⟩, fun z => z rfl⟩, fun z => absurd z1 z⟩)
  · obtain ⟨w, hw, rfl⟩ := nI_of2 (x := a1) (M := 6) (n := 6) rfl z1 z2
    refine wp_prods hw6 d8 nob (fun P hPb => wp_settX (by omega) d1 ?_)
    have hmem : ∀ t, t < 64 → (ind (sp wo 4 4 t) = if bt P t = true then 1 else 0) := fun t ht => by
      by_cases hb : bt P t = true
      · rw [if_pos hb, ind_t ((hPb t ht).1 hb)]
      · rw [if_neg hb, ind_f (fun hs => hb ((hPb t ht).2 hs))]
    have hWm : ∀ w, 1 ≤ w → (cn (fun j => pc (pf wo 4 4 j)) w (2 ^ pn wo 4 4) : Int) = sm (2 ^ K - 1) (fun i => if bt P (i + 1) = true ∧ pc (i + 1) = w then 1 else 0) := fun w h1 => by
      rw [W_members hK6 hwo hin h1]
      refine sm_congr (fun i hi => ?_)
      rw [hmem (i + 1) (by omega)]
      by_cases e1 : bt P (i + 1) = true
      · by_cases e2 : pc (i + 1) = w
        · rw [if_pos e1, if_pos e2, if_pos ⟨e1, e2⟩]; rfl
        · simp [e1, e2]
      · simp [e1]
    have hLR : lfm (bt P) (2 ^ K - 1) = rlm (fun w => cn (fun j => pc (pf wo 4 4 j)) w (2 ^ pn wo 4 4)) 6 := by
      have hW0 : ∀ w, 1 ≤ w → cn (fun j => pc (pf wo 4 4 j)) w (2 ^ pn wo 4 4) ≠ 0 → ∃ t, 1 ≤ t ∧ t ≤ 2 ^ K - 1 ∧ bt P t = true ∧ pc t = w := fun w h1 hne => by
        have := hWm w h1
        obtain ⟨i, hi, h2⟩ := sm_pos_ex (n := 2 ^ K - 1) (f := fun i => if bt P (i + 1) = true ∧ pc (i + 1) = w then 1 else 0) (fun i _ => by split <;> decide) (by omega)
        by_cases e : bt P (i + 1) = true ∧ pc (i + 1) = w
        · exact ⟨i + 1, by omega, by omega, e.1, e.2⟩
        · rw [if_neg e] at h2; exact absurd rfl h2
      have hW1 : ∀ t, 1 ≤ t → t ≤ 2 ^ K - 1 → bt P t = true → cn (fun j => pc (pf wo 4 4 j)) (pc t) (2 ^ pn wo 4 4) ≠ 0 := fun t h1 h2 hb => by
        have hp1 := (tb7 t (by omega) (by omega)).1
        have := hWm (pc t) hp1
        have h3 := sm_ge (n := 2 ^ K - 1) (f := fun i => if bt P (i + 1) = true ∧ pc (i + 1) = pc t then 1 else 0) (fun i _ => by split <;> decide) (i := t - 1) (by omega)
        rw [show t - 1 + 1 = t by omega, if_pos ⟨hb, rfl⟩] at h3
        omega
      rcases lfm_ok (bt P) (2 ^ K - 1) (by omega) with ⟨a1, a2⟩ | ⟨a1, a1', ⟨t, t1, t2, t3, t4⟩, a3⟩ <;> rcases rlm_ok (fun w => cn (fun j => pc (pf wo 4 4 j)) w (2 ^ pn wo 4 4)) 6 (by omega) with ⟨b1, b2⟩ | ⟨b1, b2, b3, b4⟩
      · omega
      · obtain ⟨t, t1, t2, t3, t4⟩ := hW0 _ (by omega) b3
        rw [a2 t t1 t2] at t3; exact absurd t3 (by decide)
      · exact absurd (b2 (pc t) (by omega) (by omega)) (hW1 t t1 t2 t3)
      · obtain ⟨t', t1', t2', t3', t4'⟩ := hW0 _ (by omega) b3
        have h1 := a3 t' t1' t2' t3'
        rcases Nat.lt_or_ge (lfm (bt P) (2 ^ K - 1)) (rlm (fun w => cn (fun j => pc (pf wo 4 4 j)) w (2 ^ pn wo 4 4)) 6) with h | h
        · exact absurd (b4 (pc t) (by omega) (by omega)) (hW1 t t1 t2 t3)
        · omega
    have R : wpM_21 y (nI w) (if w = 0 then nI (lfm (bt P) (2 ^ K - 1)) else nI (cn (fun i => if bt P (i + 1) = true ∧ pc (i + 1) = w then 1 else 0) 1 (2 ^ K - 1))) (fun y9 => LInv x y9 ∧ pot x + 0 ≤ pot x) := by
      unfold wpM_21 wpX7_length
      refine hbg _ (fun g b hb hG => ⟨fun z => absurd z z1, fun _ => ⟨fun _ => ?_, fun z => absurd z2 z⟩⟩)
      have q16 : 2 ^ pn wo 4 4 ≤ 16 := p2m _ (by have := pn_le wo 4 4; omega)
      refine wp_mult hw6 hG.2.2.2.2.1 nob (fun f hf => ?_)
      refine pk_le w 0 (fun z => ?_) (fun z => ?_)
      · rw [if_pos (by omega), hLR]
        refine wloop_n (fun j st => st = (nI (rlm (fun w => cn (fun j => pc (pf wo 4 4 j)) w (2 ^ pn wo 4 4)) j), nI (6 - j))) 6 rfl ?_ ?_
        · rintro j st again hj rfl hag
          rw [wbX7_length_41]
          refine pk_le (6 - j) 0 (fun z => absurd z (by omega)) (fun _ => ?_)
          refine wp_withF q16 (pf_lt hw6 4 4) (by omega) hf ?_
          have e6 : nI (6 - j) + (-1) = nI (6 - (j + 1)) := by rw [show 6 - j = (6 - (j + 1)) + 1 by omega]; exact pk_m1 _
          have hle := cn_le (fun j => pc (pf wo 4 4 j)) (6 - j) (2 ^ pn wo 4 4)
          rw [e6]
          refine pk_le (cn (fun j => pc (pf wo 4 4 j)) (6 - j) (2 ^ pn wo 4 4)) 0 (fun z => hag _ ?_) (fun z => hag _ ?_)
          · rw [rlm, if_pos (by omega)]
          · rw [rlm, if_neg (by omega)]
        · rintro st again rfl
          rw [wbX7_length_41]
          exact pk_le (6 - 6) 0 (fun _ => ⟨fun _ => ⟨⟨Or.inl ⟨hb, K, n, te, ti, wo, mk, c, pl, rd, hV, hD, hG⟩, hH, hP, hC⟩, Nat.le_refl _⟩, fun z => z rfl⟩) (fun z => absurd z (by omega))
      · refine wp_withF q16 (pf_lt hw6 4 4) (by omega) hf ⟨fun _ => ⟨⟨Or.inl ⟨hb, K, n, te, ti, wo, mk, c, pl, rd, hV, hD, hG⟩, hH, hP, hC⟩, Nat.le_refl _⟩, fun z2 => z2 ?_⟩
        rw [if_neg (by omega)]
        congr 1
        have h1 := hWm w (by omega)
        have h2 := cn_sm (fun i => if bt P (i + 1) = true ∧ pc (i + 1) = w then 1 else 0) 1 (2 ^ K - 1)
        rw [sm_congr (g := fun i => if bt P (i + 1) = true ∧ pc (i + 1) = w then (1 : Int) else 0) (fun i _ => by
          by_cases e : bt P (i + 1) = true ∧ pc (i + 1) = w
          · rw [if_pos e, if_pos e]; rfl
          · rw [if_neg e, if_neg e]; rfl)] at h2
        omega
    refine wloop_n (fun i st => st = (nI (lfm (bt P) i), nI (cn (fun i => if bt P (i + 1) = true ∧ pc (i + 1) = w then 1 else 0) 1 i), nI (i + 1))) (2 ^ K - 1) rfl ?_ ?_
    · rintro i st again hi rfl hag
      rw [wbX6_length_39]
      refine pk_le (2 ^ K) (i + 1) (fun z => absurd z (by omega)) (fun _ => ?_)
      have hpi := pc_le (i + 1) (by omega)
      refine wp_hasMem P (show i + 1 < 64 by omega) (fun hb => ⟨fun z => absurd z (by decide), fun _ => ?_⟩) (fun hb => ⟨fun _ => hag _ ?_, fun z => absurd rfl z⟩)
      · have J : ∀ v, v = lfm (bt P) (i + 1) → wjX6_length_79 (nI w) (nI (cn (fun i => if bt P (i + 1) = true ∧ pc (i + 1) = w then 1 else 0) 1 i)) (nI (i + 1)) again (nI v) := fun v hv => by
          unfold wjX6_length_79
          rw [vbc_pc (i + 1) (by omega), nI_1, nI_1]
          refine pk_eq (pc (i + 1)) w (fun z => hag _ ?_) (fun z => hag _ ?_)
          · rw [hv, cn, if_pos (by rw [if_pos ⟨hb, z⟩])]
          · rw [hv, cn, if_neg (by rw [if_neg (fun e => z e.2)]; decide), show (0 : Int32) = nI 0 from rfl, nI_add]
        rw [vbc_pc (i + 1) (by omega)]
        have hl6 : lfm (bt P) i < 2 ^ 31 := by
          rcases lfm_ok (bt P) i (by omega) with ⟨h, _⟩ | ⟨_, h, _⟩ <;> omega
        refine pk_eq (lfm (bt P) i) 0 (fun z => J _ ?_) (fun z => ?_)
        · rw [lfm, if_pos hb, if_pos z]
        · by_cases e : pc (i + 1) < lfm (bt P) i
          · rw [if_pos (nI_lt e hl6)]
            exact J _ (by rw [lfm, if_pos hb, if_neg z, if_pos e])
          · rw [if_neg (nI_nlt (by omega) (by omega))]
            exact J _ (by rw [lfm, if_pos hb, if_neg z, if_neg e])
      · rw [nI_1, lfm, if_neg (by rw [hb]; decide), cn, if_neg (by rw [if_neg (fun e => by rw [hb] at e; exact absurd e.1 (by decide))]; decide)]; rfl
    · rintro st again rfl
      rw [wbX6_length_39]
      refine pk_le (2 ^ K) (2 ^ K - 1 + 1) (fun _ => ?_) (fun z => absurd z (by omega))
      refine pk_eq w 0 (fun z => ?_) (fun z => ?_)
      · rw [if_pos z] at R; exact R
      · rw [if_neg z] at R; exact R
  · unfold wpM_21 wpX7_length
    exact hbg _ (fun g b hb hG => ⟨fun z => absurd z z1, fun _ => ⟨fun z => absurd z z2, fun _ => ⟨fun _ => ⟨⟨Or.inl ⟨hb, K, n, te, ti, wo, mk, c, pl, rd, hV, hD, hG⟩, hH, hP, hC⟩, Nat.le_refl _⟩, fun z => z rfl⟩⟩⟩)
