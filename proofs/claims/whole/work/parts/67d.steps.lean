/-! the steps: about, mark, table, worth -/
theorem tot_z {f : Nat → Nat} {S : Nat} (h : ∀ s, S ≤ s → f s = 0) : ∀ {N : Nat}, S ≤ N → tot f N = tot f S
  | 0, h0 => by rw [show S = 0 by omega]
  | N + 1, h0 => by
    by_cases e : S = N + 1
    · rw [e]
    · have ih := tot_z h (N := N) (by omega)
      unfold tot at ih ⊢
      rw [sm, ih, h N (by omega)]; simp
theorem plan_psd {K n : Nat} {te ti wo : Nat → Nat} {mk : Nat → Int} {c : Nat} {pl : Nat → Nat} {rd : Nat → Int} (hV : VA K n te ti wo mk c pl rd) : psd n (tbp n te id ti (2 ^ K)) ∧ ∀ i j, (tbp n te id ti (2 ^ K) i j).natAbs ≤ 60 := by
  obtain ⟨⟨hK1, hK6⟩, ⟨hn1, hn5⟩, hte, hdi, hti, htz, htot, _⟩ := hV
  refine ⟨psd_tbp _ _ _ _ _, fun i j => ?_⟩
  have h := tot_z htz (N := 64) (p64 hK6)
  have h2 : (tbp n te id ti (2 ^ K) i j).natAbs ≤ 40 := tbp_abs (by show tot ti (2 ^ K) ≤ _; rw [← h]; exact htot) i j
  omega
theorem wp_wholeWorth {n : Nat} (hn : n ≤ 5) {T : Nat → Nat → Int} {g : Nat → Int32} (hg : g 1 = nI n) {table work part : Nat → Int64} (hT : ∀ i j, i < 6 → j < 6 → table (6 * i + j) = lI (T i j)) {k : Int64 → (Nat → Int64) → (Nat → Int64) → Prop} (h : ∀ w p, k (lI (det n T)) w p) : wpX7_wholeWorth g table work part k := by
  unfold wpX7_wholeWorth
  refine wloop_n (fun i st => ∃ f, st = (nI i, f) ∧ ∀ j, j < i → f j = table j) 36 ⟨work, rfl, fun j hj => absurd hj (Nat.not_lt_zero _)⟩ ?_ ?_
  · rintro i st again hi ⟨f, rfl, hf⟩ hag
    rw [wbX7_wholeWorth_2]
    refine pk_le 36 i (fun z => absurd z (by omega)) (fun _ => ⟨vp_in_nI hi (by omega), vp_in_nI hi (by omega), ?_⟩)
    rw [nI_clamp (by omega), nI_1]
    refine hag _ ⟨_, rfl, fun j hj => ?_⟩
    by_cases e : j = i
    · subst e; rw [pk_uLs]
    · rw [pk_uLn e, hf j (by omega)]
  · rintro st again ⟨f, rfl, hf⟩
    rw [wbX7_wholeWorth_2, hg]
    refine pk_le 36 36 (fun _ => wp_worth (A := T) (by omega) (fun i j hi hj => ?_) (fun p => h f p)) (fun z => absurd z (by omega))
    rw [hf _ (by omega), hT i j (by omega) (by omega)]
theorem wp_sweepPlan {K n : Nat} (hK : K < 7) (hn : n ≤ 5) {te ti : Nat → Nat} (hte : ∀ i, i < n → te i < 64) (hti : ∀ s, s < 64 → ti s ≤ 60) (hps : psd n (tbp n te id ti (2 ^ K))) (hB : ∀ i j, (tbp n te id ti (2 ^ K) i j).natAbs ≤ 60) {cells : Nat → Int64} {sw : Nat → Int32} {size rank fc tc : Int32} {lower : Int64} {terms p2 : Nat → Int32} (hfc : fc = nI K) (htc : tc = nI n) (ht : ∀ i, i < n → terms i = nI (te i)) (hp : ∀ s, s < 64 → p2 s = nI (ti s)) {k : (Nat → Int64) → (Nat → Int32) → Int32 → Int32 → Int64 → Prop}
    (h : ∀ f sw', GC n f (CV (tbp n te id ti (2 ^ K)) (gln (tbp n te id ti (2 ^ K)) n).2 (gln (tbp n te id ti (2 ^ K)) n).1) → SP n sw' (gln (tbp n te id ti (2 ^ K)) n).2 (gln (tbp n te id ti (2 ^ K)) n).1 → k f sw' (nI n) (nI (gln (tbp n te id ti (2 ^ K)) n).1) (lI (DD (tbp n te id ti (2 ^ K)) (gln (tbp n te id ti (2 ^ K)) n).2 (gln (tbp n te id ti (2 ^ K)) n).1))) : wpX6_sweepPlan fc tc terms p2 cells sw size rank lower k := by
  unfold wpX6_sweepPlan
  refine wp_fill hK hn hte hti hfc htc ht hp (fun f hf => ?_)
  exact wp_sweep hn hps hB rfl hf (fun f sw' h1 h2 => h f sw' h1 h2)
theorem wp_tried {ti : Nat → Nat} (hti : ∀ s, ti s ≤ 9) {times : Nat → Int32} (ht : ∀ s, s < 64 → times s = nI (ti s)) {k : Int32 → Prop} (h : k (nI (cn (fun s => if 0 < ti s then 1 else 0) 1 64))) : wpX1_triedSettings times k := by
  unfold wpX1_triedSettings
  refine wloop_n (fun i st => st = (nI (cn (fun s => if 0 < ti s then 1 else 0) 1 i), nI i)) 64 rfl ?_ ?_
  · rintro i st again hi rfl hag
    rw [wbX1_triedSettings_4]
    have := hti i
    refine pk_le 64 i (fun z => absurd z (by omega)) (fun _ => ⟨vp_in_nI hi (by omega), ?_⟩)
    rw [nI_clamp (by omega), ht i hi, nI_1, nI_1, show (0 : Int32) = nI 0 from rfl, nI_add]
    refine pk_le (ti i) 0 (fun z => hag _ ?_) (fun z => hag _ ?_)
    · rw [cn, if_neg (by rw [if_neg (by omega)]; decide)]
    · rw [cn, if_pos (by rw [if_pos (by omega)])]
  · rintro st again rfl
    rw [wbX1_triedSettings_4]
    exact pk_le 64 64 (fun _ => h) (fun z => absurd z (by omega))
theorem lb_step_5 (x : XS) (y : MS) (a1 : Int32) (h : LInv x y) : ∃ bud, bud ≤ 49152 ∧ wpL_5 x y a1 bud (fun x9 y9 => LInv x9 y9 ∧ pot x + bud ≤ pot x9) := by
  refine ⟨0, by omega, ?_⟩
  obtain ⟨hB, hH, hP, hC⟩ := h
  obtain ⟨K, n, te, ti, wo, mk, c, pl, rd, hV, hD, hbg⟩ := BR_open hB
  obtain ⟨hps, hbd⟩ := plan_psd hV
  have hV' := hV
  obtain ⟨⟨hK1, hK6⟩, ⟨hn1, hn5⟩, hte, hdi, hti, htz, htot, hwo, hin, hmk, hc, hpl, hrd⟩ := hV'
  have hD' := hD
  obtain ⟨d1, d2, d3, d4, d5, d6, d7, d8, d9, d10, d11⟩ := hD'
  have h64 := p64 hK6
  unfold wpL_5 wpX6_about
  refine ⟨fun ea => ?_, fun ea => ?_, fun ea => ?_, fun ea => ?_, fun ea => ?_, fun ea => ?_, fun ea => ?_⟩
  · subst ea
    unfold wpM_5 wpX7_about
    refine hbg _ (fun g b hb hG => ⟨fun _ => ⟨fun _ => ⟨⟨Or.inl ⟨hb, K, n, te, ti, wo, mk, c, pl, rd, hV, hD, hG⟩, hH, hP, hC⟩, Nat.le_refl _⟩, fun z => z ?_⟩, fun z => absurd rfl z⟩)
    rw [d1, hG.1]
  · subst ea
    unfold wpM_5 wpX7_about
    refine hbg _ (fun g b hb hG => ⟨fun z => absurd z (by decide), fun _ => ⟨fun _ => ⟨fun _ => ⟨⟨Or.inl ⟨hb, K, n, te, ti, wo, mk, c, pl, rd, hV, hD, hG⟩, hH, hP, hC⟩, Nat.le_refl _⟩, fun z => z ?_⟩, fun z => absurd rfl z⟩⟩)
    rw [d2, hG.2.1]
  · subst ea
    unfold wpM_5 wpX7_about
    refine hbg _ (fun g b hb hG => ⟨fun z => absurd z (by decide), fun _ => ⟨fun z => absurd z (by decide), fun _ => ⟨fun _ => wp_trials hG.2.2.2.1 ⟨fun _ => ⟨⟨Or.inl ⟨hb, K, n, te, ti, wo, mk, c, pl, rd, hV, hD, hG⟩, hH, hP, hC⟩, Nat.le_refl _⟩, fun z => z ?_⟩, fun z => absurd rfl z⟩⟩⟩)
    rw [d3]
  · subst ea
    refine wp_tried hti d7 ?_
    unfold wpM_5 wpX7_about
    refine hbg _ (fun g b hb hG => ⟨fun z => absurd z (by decide), fun _ => ⟨fun z => absurd z (by decide), fun _ => ⟨fun z => absurd z (by decide), fun _ => ⟨fun _ => ?_, fun z => absurd rfl z⟩⟩⟩⟩)
    refine wloop_n (fun i st => st = (nI (cn (fun s => if 0 < ti s then 1 else 0) 1 i), nI i)) 64 rfl ?_ ?_
    · rintro i st again hi rfl hag
      have := hti i
      rw [wbX7_about_51]
      refine pk_le 64 i (fun z => absurd z (by omega)) (fun _ => ?_)
      rw [show (7 : Int32) + nI i = nI (7 + i) from nI_add 7 i, nI_clamp (by omega), hG.2.2.2.1 i hi, nI_1, nI_1]
      refine ⟨vp_in_nI (by omega) (by omega), pk_le (ti i) 0 (fun z => hag _ ?_) (fun z => hag _ ?_)⟩
      · rw [cn, if_neg (by rw [if_neg (by omega)]; decide)]; rfl
      · rw [cn, if_pos (by rw [if_pos (by omega)])]
    · rintro st again rfl
      rw [wbX7_about_51]
      exact pk_le 64 64 (fun _ => ⟨fun _ => ⟨⟨Or.inl ⟨hb, K, n, te, ti, wo, mk, c, pl, rd, hV, hD, hG⟩, hH, hP, hC⟩, Nat.le_refl _⟩, fun z => z rfl⟩) (fun z => absurd z (by omega))
  · subst ea
    refine wp_sweepPlan (by omega) hn5 (fun i hi => by have := hte i hi; omega) (fun s _ => by have := hti s; omega) hps hbd d1 d2 d6 d7 (fun f sw' h1 h2 => ?_)
    unfold wpM_5 wpX7_about
    refine hbg _ (fun g b hb hG => ⟨fun z => absurd z (by decide), fun _ => ⟨fun z => absurd z (by decide), fun _ => ⟨fun z => absurd z (by decide), fun _ => ⟨fun z => absurd z (by decide), fun _ => ⟨fun _ => ?_, fun z => absurd rfl z⟩⟩⟩⟩⟩)
    unfold wpX7_rank
    refine wp_tabP (by omega) hn5 (fun i hi => by have := hte i hi; omega) (fun s _ => by have := hti s; omega) hG.1 hG.2.1 hG.2.2.1 hG.2.2.2.1 (fun f hf => ?_)
    exact wp_find hn5 hbd hG.2.1 (fun i j hi hj => hf i j (by omega) (by omega)) (fun _ _ _ _ _ _ => ⟨fun _ => ⟨⟨Or.inl ⟨hb, K, n, te, ti, wo, mk, c, pl, rd, hV, hD, hG⟩, hH, hP, hC⟩, Nat.le_refl _⟩, fun z => z rfl⟩)
  · subst ea
    unfold wpM_5 wpX7_about
    refine hbg _ (fun g b hb hG => ⟨fun z => absurd z (by decide), fun _ => ⟨fun z => absurd z (by decide), fun _ => ⟨fun z => absurd z (by decide), fun _ => ⟨fun z => absurd z (by decide), fun _ => ⟨fun z => absurd z (by decide), fun _ => ⟨fun _ => ⟨fun _ => ⟨⟨Or.inl ⟨hb, K, n, te, ti, wo, mk, c, pl, rd, hV, hD, hG⟩, hH, hP, hC⟩, Nat.le_refl _⟩, fun z => z ?_⟩, fun z => absurd rfl z⟩⟩⟩⟩⟩⟩)
    rw [d4, hG.2.2.2.2.2.2.1]
  · have ne : a1 ≠ 0 ∧ a1 ≠ 1 ∧ a1 ≠ 2 ∧ a1 ≠ 3 ∧ a1 ≠ 4 ∧ a1 ≠ 5 := by
      refine ⟨?_, ?_, ?_, ?_, ?_, ?_⟩ <;> (intro e; subst e; exact absurd ea (by decide))
    obtain ⟨n0, n1, n2, n3, n4, n5⟩ := ne
    unfold wpX6_aboutOne
    have M1 : a1 < 10 → wpM_5 y a1 (-1) (fun y9 => LInv x y9 ∧ pot x + 0 ≤ pot x) := by
      intro z1
      unfold wpM_5 wpX7_about
      refine hbg _ (fun g b hb hG => ⟨fun z => absurd z n0, fun _ => ⟨fun z => absurd z n1, fun _ => ⟨fun z => absurd z n2, fun _ => ⟨fun z => absurd z n3, fun _ => ⟨fun z => absurd z n4, fun _ => ⟨fun z => absurd z n5, fun _ => ⟨fun _ => ?_, fun z => absurd z1 z⟩⟩⟩⟩⟩⟩⟩)
      unfold wjX7_about_135
      exact ⟨fun _ => ⟨fun _ => ⟨⟨Or.inl ⟨hb, K, n, te, ti, wo, mk, c, pl, rd, hV, hD, hG⟩, hH, hP, hC⟩, Nat.le_refl _⟩, fun z => z rfl⟩, fun z => absurd (Int32.lt_trans z1 (by decide)) z⟩
    refine ⟨fun z1 => ?_, fun z1 => ?_⟩
    · unfold wjX6_aboutOne_33
      exact ⟨fun _ => M1 z1, fun z => absurd (Int32.lt_trans z1 (by decide)) z⟩
    · obtain ⟨A, hA, rfl⟩ := nI_of (x := a1) (fun z => z1 (Int32.lt_trans z (by decide)))
      have hA10 : 10 ≤ A := by
        rcases Nat.lt_or_ge A 10 with h | h
        · exact absurd (nI_lt h (by omega)) z1
        · exact h
      have e10 : nI A - 10 = nI (A - 10) := pk_sub (b := 10) hA10
      rw [d2, show (10 : Int32) + nI n = nI (10 + n) from nI_add 10 n, e10]
      refine pk_le (10 + n) A (fun z2 => ?_) (fun z2 => ?_)
      · unfold wjX6_aboutOne_33
        refine pk_lt A 100 (fun z3 => ?_) (fun z3 => ?_)
        · unfold wpM_5 wpX7_about
          refine hbg _ (fun g b hb hG => ⟨fun z => absurd z n0, fun _ => ⟨fun z => absurd z n1, fun _ => ⟨fun z => absurd z n2, fun _ => ⟨fun z => absurd z n3, fun _ => ⟨fun z => absurd z n4, fun _ => ⟨fun z => absurd z n5, fun _ => ⟨fun z => absurd z z1, fun _ => ?_⟩⟩⟩⟩⟩⟩⟩)
          rw [hG.2.1, e10]
          refine pk_le n (A - 10) (fun _ => ?_) (fun z => absurd z (by omega))
          unfold wjX7_about_135
          exact pk_lt A 100 (fun _ => ⟨fun _ => ⟨⟨Or.inl ⟨hb, K, n, te, ti, wo, mk, c, pl, rd, hV, ⟨d1, rfl, d3, d4, d5, d6, d7, d8, d9, d10, d11⟩, hG⟩, hH, hP, hC⟩, Nat.le_refl _⟩, fun z => z rfl⟩) (fun z => absurd z (by omega))
        · refine wp_settX (by omega) d1 ?_
          have e100 : nI A - 100 = nI (A - 100) := pk_sub (b := 100) z3
          rw [show (100 : Int32) + nI (2 ^ K) = nI (100 + 2 ^ K) from nI_add 100 (2 ^ K), e100]
          refine pk_le (100 + 2 ^ K) A (fun z4 => ?_) (fun z4 => ?_)
          · unfold wpM_5 wpX7_about
            refine hbg _ (fun g b hb hG => ⟨fun z => absurd z n0, fun _ => ⟨fun z => absurd z n1, fun _ => ⟨fun z => absurd z n2, fun _ => ⟨fun z => absurd z n3, fun _ => ⟨fun z => absurd z n4, fun _ => ⟨fun z => absurd z n5, fun _ => ⟨fun z => absurd z z1, fun _ => ?_⟩⟩⟩⟩⟩⟩⟩)
            rw [hG.2.1, e10]
            refine pk_le n (A - 10) (fun _ => ?_) (fun z => absurd z (by omega))
            unfold wjX7_about_135
            rw [e100]
            refine pk_lt A 100 (fun z => absurd z (by omega)) (fun _ => ?_)
            refine wp_isM (by omega) hG.1 _ (fun j hj e => absurd ((nI_eq (by omega) (by omega)).1 e) (by omega)) (fun _ => ⟨fun _ => ⟨fun _ => ⟨⟨Or.inl ⟨hb, K, n, te, ti, wo, mk, c, pl, rd, hV, ⟨d1, rfl, d3, d4, d5, d6, d7, d8, d9, d10, d11⟩, hG⟩, hH, hP, hC⟩, Nat.le_refl _⟩, fun z => z rfl⟩, fun z => absurd rfl z⟩)
          · rw [nI_clamp (by omega), d7 _ (by omega)]
            refine ⟨vp_in_nI (by omega) (by omega), ?_⟩
            unfold wpM_5 wpX7_about
            refine hbg _ (fun g b hb hG => ⟨fun z => absurd z n0, fun _ => ⟨fun z => absurd z n1, fun _ => ⟨fun z => absurd z n2, fun _ => ⟨fun z => absurd z n3, fun _ => ⟨fun z => absurd z n4, fun _ => ⟨fun z => absurd z n5, fun _ => ⟨fun z => absurd z z1, fun _ => ?_⟩⟩⟩⟩⟩⟩⟩)
            rw [hG.2.1, e10]
            refine pk_le n (A - 10) (fun _ => ?_) (fun z => absurd z (by omega))
            unfold wjX7_about_135
            rw [e100]
            refine pk_lt A 100 (fun z => absurd z (by omega)) (fun _ => ?_)
            refine wp_isM (by omega) hG.1 _ (fun j hj e => ⟨fun z => absurd z (by decide), fun _ => ?_⟩) (fun hno => absurd rfl (hno (A - 100) (by omega)))
            have e7 : (7 : Int32) + nI A - 100 = nI (7 + (A - 100)) := by
              rw [show (7 : Int32) + nI A = nI (7 + A) from nI_add 7 A]
              rw [show nI (7 + A) - 100 = nI (7 + A - 100) from pk_sub (b := 100) (by omega)]
              congr 1; omega
            rw [e7, nI_clamp (by omega), hG.2.2.2.1 _ (by omega)]
            exact ⟨vp_in_nI (by omega) (by omega), ⟨fun _ => ⟨⟨Or.inl ⟨hb, K, n, te, ti, wo, mk, c, pl, rd, hV, ⟨d1, rfl, d3, d4, d5, d6, d7, d8, d9, d10, d11⟩, hG⟩, hH, hP, hC⟩, Nat.le_refl _⟩, fun z => z rfl⟩⟩
      · rw [nI_clamp (by omega), d6 _ (by omega)]
        refine ⟨vp_in_nI (by omega) (by omega), ?_⟩
        unfold wpM_5 wpX7_about
        refine hbg _ (fun g b hb hG => ⟨fun z => absurd z n0, fun _ => ⟨fun z => absurd z n1, fun _ => ⟨fun z => absurd z n2, fun _ => ⟨fun z => absurd z n3, fun _ => ⟨fun z => absurd z n4, fun _ => ⟨fun z => absurd z n5, fun _ => ⟨fun z => absurd z z1, fun _ => ?_⟩⟩⟩⟩⟩⟩⟩)
        rw [hG.2.1, e10]
        refine pk_le n (A - 10) (fun z => absurd z (by omega)) (fun _ => ?_)
        have e7 : (2 : Int32) + nI A - 10 = nI (2 + (A - 10)) := by
          rw [show (2 : Int32) + nI A = nI (2 + A) from nI_add 2 A]
          rw [show nI (2 + A) - 10 = nI (2 + A - 10) from pk_sub (b := 10) (by omega)]
          congr 1; omega
        rw [e7, nI_clamp (by omega), hG.2.2.1 _ (by omega)]
        exact ⟨vp_in_nI (by omega) (by omega), ⟨fun _ => ⟨⟨Or.inl ⟨hb, K, n, te, ti, wo, mk, c, pl, rd, hV, ⟨d1, rfl, d3, d4, d5, d6, d7, d8, d9, d10, d11⟩, hG⟩, hH, hP, hC⟩, Nat.le_refl _⟩, fun z => z rfl⟩⟩
theorem lb_step_6 (x : XS) (y : MS) (a1 : Int32) (a2 : Int32) (h : LInv x y) : ∃ bud, bud ≤ 49152 ∧ wpL_6 x y a1 a2 bud (fun x9 y9 => LInv x9 y9 ∧ pot x + bud ≤ pot x9) := by
  refine ⟨0, by omega, ?_⟩
  obtain ⟨hB, hH, hP, hC⟩ := h
  obtain ⟨K, n, te, ti, wo, mk, c, pl, rd, hV, hD, hbg⟩ := BR_open hB
  have hK6 := hV.1.2
  have h64 := p64 hK6
  have d1 := hD.1
  unfold wpL_6 wpX6_mark
  refine wp_hasX (by omega) d1 a1 (fun j hj ea => ?_) (fun hno => ⟨fun _ => ?_, fun z => absurd rfl z⟩)
  · refine ⟨fun z => absurd z (by decide), fun _ => wp_hasX (by omega) d1 a2 (fun s hs es => ?_) (fun hno => ⟨fun _ => ?_, fun z => absurd rfl z⟩)⟩
    · refine ⟨fun z => absurd z (by decide), fun _ => ?_⟩
      subst ea es
      refine wp_markX (by omega) (by omega) ?_
      unfold wpM_6 wpX7_mark
      refine hbg _ (fun g b hb hG => wp_isM (by omega) hG.1 _ (fun _ _ _ => ⟨fun z => absurd z (by decide), fun _ => wp_isM (by omega) hG.1 _ (fun _ _ _ => ⟨fun z => absurd z (by decide), fun _ => wp_markM (by omega) (by omega) ⟨fun _ => ⟨⟨Or.inl ⟨hb, K, n, te, ti, wo, mk, c, pl, rd, hV, hD, hG⟩, hH, hP, hC⟩, Nat.le_refl _⟩, fun z => z rfl⟩⟩) (fun hno => absurd rfl (hno s hs))⟩) (fun hno => absurd rfl (hno j hj)))
    · unfold wpM_6 wpX7_mark
      refine hbg _ (fun g b hb hG => wp_isM (by omega) hG.1 _ (fun _ _ _ => ⟨fun z => absurd z (by decide), fun _ => wp_isM (by omega) hG.1 _ (fun s hs e => absurd e (hno s hs)) (fun _ => ⟨fun _ => ⟨fun _ => ⟨⟨Or.inl ⟨hb, K, n, te, ti, wo, mk, c, pl, rd, hV, hD, hG⟩, hH, hP, hC⟩, Nat.le_refl _⟩, fun z => z rfl⟩, fun z => absurd rfl z⟩)⟩) (fun hno2 => absurd ea (hno2 j hj)))
  · unfold wpM_6 wpX7_mark
    exact hbg _ (fun g b hb hG => wp_isM (by omega) hG.1 _ (fun s hs e => absurd e (hno s hs)) (fun _ => ⟨fun _ => ⟨fun _ => ⟨⟨Or.inl ⟨hb, K, n, te, ti, wo, mk, c, pl, rd, hV, hD, hG⟩, hH, hP, hC⟩, Nat.le_refl _⟩, fun z => z rfl⟩, fun z => absurd rfl z⟩))
theorem lb_step_7 (x : XS) (y : MS) (a1 : Int32) (a2 : Int32) (h : LInv x y) : ∃ bud, bud ≤ 49152 ∧ wpL_7 x y a1 a2 bud (fun x9 y9 => LInv x9 y9 ∧ pot x + bud ≤ pot x9) := by
  refine ⟨0, by omega, ?_⟩
  obtain ⟨hB, hH, hP, hC⟩ := h
  obtain ⟨K, n, te, ti, wo, mk, c, pl, rd, hV, hD, hbg⟩ := BR_open hB
  have hV' := hV
  obtain ⟨⟨hK1, hK6⟩, ⟨hn1, hn5⟩, hte, hdi, hti, htz, htot, hwo, hin, hmk, hc, hpl, hrd⟩ := hV'
  have hD' := hD
  obtain ⟨d1, d2, d3, d4, d5, d6, d7, d8, d9, d10, d11⟩ := hD'
  have h64 := p64 hK6
  unfold wpL_7 wpX6_table
  have A : (a1 < 0 ∨ nI n ≤ a1 ∨ a2 < 0 ∨ ¬ a2 < nI n) → wpM_7 y a1 a2 (-1000) (fun y9 => LInv x y9 ∧ pot x + 0 ≤ pot x) := by
    intro hb1
    unfold wpM_7 wpX7_table
    refine hbg _ (fun g b hb hG => ?_)
    have L : LInv x ((y.1.1, b, g, y.1.2.2.2), (0, y.2.1.2), y.2.2) := ⟨Or.inl ⟨hb, K, n, te, ti, wo, mk, c, pl, rd, hV, hD, hG⟩, hH, hP, hC⟩
    rw [hG.2.1]
    refine ⟨fun _ => ⟨fun _ => ⟨L, Nat.le_refl _⟩, fun z => z rfl⟩, fun z1 => ⟨fun _ => ⟨fun _ => ⟨L, Nat.le_refl _⟩, fun z => z rfl⟩, fun z2 => ⟨fun _ => ⟨fun _ => ⟨L, Nat.le_refl _⟩, fun z => z rfl⟩, fun z3 => ⟨fun z4 => ?_, fun _ => ⟨fun _ => ⟨L, Nat.le_refl _⟩, fun z => z rfl⟩⟩⟩⟩⟩
    rcases hb1 with h | h | h | h
    · exact absurd h z1
    · exact absurd h z3
    · exact absurd h z2
    · exact absurd z4 h
  refine ⟨fun z => A (Or.inl z), fun z1 => ⟨fun z => A (Or.inr (Or.inl (by rw [← d2]; exact z))), fun z2 => ⟨fun z => A (Or.inr (Or.inr (Or.inl z))), fun z3 => ⟨fun z4 => ?_, fun z => A (Or.inr (Or.inr (Or.inr (by rw [← d2]; exact z))))⟩⟩⟩⟩
  rw [d2] at z2 z4
  obtain ⟨i, hi, rfl⟩ : ∃ j, j < n ∧ a1 = nI j := by
    rcases has_cases a1 (n := n) (by omega) with h | h | h
    · exact h
    · exact absurd h z1
    · exact absurd h z2
  obtain ⟨j, hj, rfl⟩ : ∃ j, j < n ∧ a2 = nI j := by
    rcases has_cases a2 (n := n) (by omega) with h | h | h
    · exact h
    · exact absurd h z3
    · exact absurd z4 (Int32.not_lt.2 h)
  refine wp_fill (by omega) hn5 (fun i hi => by have := hte i hi; omega) (fun s _ => by have := hti s; omega) d1 d2 d6 d7 (fun f hf => ?_)
  refine wp_cellAt (by omega) (by omega) ⟨vp_in_nI (ca_lt i (by omega) j (by omega)) (by omega), ?_⟩
  have hca := ca_lt i (by omega) j (by omega)
  rw [nI_clamp (by omega), GC_ca (fun i j => tbp_sym n te id ti (2 ^ K) i j) hf hi hj]
  unfold wpM_7 wpX7_table
  refine hbg _ (fun g b hb hG => ?_)
  rw [hG.2.1]
  refine ⟨fun z => absurd z z1, fun _ => ⟨fun z => absurd z z3, fun _ => ⟨fun z => absurd z z2, fun _ => ⟨fun _ => ?_, fun z => absurd z4 z⟩⟩⟩⟩
  refine wp_tabP (by omega) hn5 (fun i hi => by have := hte i hi; omega) (fun s _ => by have := hti s; omega) hG.1 hG.2.1 hG.2.2.1 hG.2.2.2.1 (fun f hf => ?_)
  rw [ix6, nI_clamp (by omega), hf i j (by omega) (by omega)]
  exact ⟨vp_in_nI (by omega) (by omega), ⟨fun _ => ⟨⟨Or.inl ⟨hb, K, n, te, ti, wo, mk, c, pl, rd, hV, hD, hG⟩, hH, hP, hC⟩, Nat.le_refl _⟩, fun z => z rfl⟩⟩
theorem lb_step_8 (x : XS) (y : MS)  (h : LInv x y) : ∃ bud, bud ≤ 49152 ∧ wpL_8 x y  bud (fun x9 y9 => LInv x9 y9 ∧ pot x + bud ≤ pot x9) := by
  refine ⟨0, by omega, ?_⟩
  obtain ⟨hB, hH, hP, hC⟩ := h
  obtain ⟨K, n, te, ti, wo, mk, c, pl, rd, hV, hD, hbg⟩ := BR_open hB
  obtain ⟨hps, hbd⟩ := plan_psd hV
  have hV' := hV
  obtain ⟨⟨hK1, hK6⟩, ⟨hn1, hn5⟩, hte, hdi, hti, htz, htot, hwo, hin, hmk, hc, hpl, hrd⟩ := hV'
  have hD' := hD
  obtain ⟨d1, d2, d3, d4, d5, d6, d7, d8, d9, d10, d11⟩ := hD'
  have h64 := p64 hK6
  unfold wpL_8 wpX6_worth
  refine wp_fill (by omega) hn5 (fun i hi => by have := hte i hi; omega) (fun s _ => by have := hti s; omega) d1 d2 d6 d7 (fun f hf => ?_)
  refine wp_det hn1 hn5 hps hbd rfl hf (fun f2 => ?_)
  unfold wpM_8 wpX7_worth
  refine hbg _ (fun g b hb hG => ?_)
  refine wp_tabP (by omega) hn5 (fun i hi => by have := hte i hi; omega) (fun s _ => by have := hti s; omega) hG.1 hG.2.1 hG.2.2.1 hG.2.2.2.1 (fun f hf => ?_)
  exact wp_wholeWorth hn5 hG.2.1 hf (fun _ _ => ⟨fun _ => ⟨⟨Or.inl ⟨hb, K, n, te, ti, wo, mk, c, pl, rd, hV, hD, hG⟩, hH, hP, hC⟩, Nat.le_refl _⟩, fun z => z rfl⟩)
