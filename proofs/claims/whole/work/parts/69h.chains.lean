/-! the reference's CHAINS, and the steps chain, chainOf -/
theorem inb_full {M b : Nat} (hb : b < M) : inb (2 ^ M - 1) b = false := by unfold inb; rw [Nat.testBit_two_pow_sub_one]; simp [hb]
theorem cmf_full (M : Nat) : cmf M (2 ^ M - 1) = 0 := mbn_zero (fun b hb => inb_full hb)
theorem full_of {M set : Nat} (hs : set < 2 ^ M) (h : cmf M set = 0) : set = 2 ^ M - 1 := by
  apply Nat.eq_of_testBit_eq
  intro i
  rw [Nat.testBit_two_pow_sub_one]
  by_cases c : i < M
  · rw [decide_eq_true c]
    cases hb : set.testBit i with
    | true => rfl
    | false =>
      have := mbn_pos (p := inb set) c (by unfold inb; rw [hb]; rfl)
      unfold cmf at h; omega
  · rw [decide_eq_false c]
    exact Nat.testBit_lt_two_pow (Nat.lt_of_lt_of_le hs (Nat.pow_le_pow_right (by omega) (by omega)))
theorem wp_chains {K : Nat} (hK : K ≤ 6) {ti : Nat → Nat} {M : Nat} (hC : CT ti M) (htz : ∀ s, 2 ^ K ≤ s → ti s = 0) {g : Nat → Int32} (hg0 : g 0 = nI K) (hg : ∀ s, s < 64 → g (7 + s) = nI (ti s)) {links : Int32} {link chd left : Nat → Int32} {k : Int32 → Int32 → (Nat → Int32) → (Nat → Int32) → (Nat → Int32) → Prop}
    (h : ∀ link' chd' left', (∀ i, i < M → chd' i = nI (css M ti (fun _ => 0) i)) → k (nI (cbs M ti (fun _ => 0))) (nI M) link' chd' left') : wpX7_chains g links link chd left k := by
  have h64 := p64 hK
  have hM12 := hC.2.2.2
  have hM : M = cum ti 64 := by have := cum_tot ti 64; have := hC.2.2.1; omega
  have hMS : M = cum ti (2 ^ K) := by
    have h1 := cum_tot ti 64
    have h2 := cum_tot ti (2 ^ K)
    have h3 := tot_z htz (N := 64) h64
    omega
  have hp12 := (sh12 M (by omega)).2.2
  have hpM := Nat.two_pow_pos M
  unfold wpX7_chains
  refine wp_trials hg ?_
  have hcmp : iI (tot ti 64) ≤ (12 : Int32) := by
    rw [hC.2.2.1]
    show iI M ≤ iI 12
    exact (iI_le (by omega) (by decide)).2 (by omega)
  refine ⟨fun _ => ?_, fun z => absurd hcmp z⟩
  refine wloop_n (fun s st => ∃ lk, st = (nI s, nI (cum ti s), lk) ∧ ∀ b, b < cum ti s → lk b = nI (lkf ti 64 b)) (2 ^ K) ⟨link, rfl, fun b hb => absurd hb (Nat.not_lt_zero _)⟩ ?_ ?_
  · rintro s st again hs ⟨lk, rfl, hlk⟩ hag
    have h9 := hC.1 s
    have hcu := cum_mono ti (show s + 1 ≤ 2 ^ K by omega)
    rw [cum] at hcu
    rw [wbX7_chains_18]
    refine wp_settM (by omega) hg0 (pk_le (2 ^ K) s (fun z => absurd z (by omega)) (fun _ => ?_))
    refine wloop_n (fun j st => ∃ lk, st = (nI j, nI (cum ti s + j), lk) ∧ ∀ b, b < cum ti s + j → lk b = nI (lkf ti 64 b)) (ti s) ⟨lk, rfl, hlk⟩ ?_ ?_
    · rintro j st again2 hj ⟨lk, rfl, hlk⟩ hag2
      rw [wbX7_chains_28, show (7 : Int32) + nI s = nI (7 + s) from nI_add 7 s, nI_clamp (show 7 + s < 2 ^ 31 by omega), hg s (by omega)]
      refine ⟨vp_in_nI (by omega) (by omega), pk_le (ti s) j (fun z => absurd z (by omega)) (fun _ => ⟨vp_in_nI (by omega) (by omega), ?_⟩)⟩
      rw [nI_1, nI_1, nI_clamp (by omega)]
      refine hag2 _ ⟨_, rfl, fun b hb => ?_⟩
      by_cases e : b = cum ti s + j
      · subst e; rw [pk_us, lkf_at (show s < 64 by omega) (by omega) (by rw [cum]; omega)]
      · rw [pk_un e]; exact hlk b (by omega)
    · rintro st again2 ⟨lk, rfl, hlk⟩
      rw [wbX7_chains_28, show (7 : Int32) + nI s = nI (7 + s) from nI_add 7 s, nI_clamp (show 7 + s < 2 ^ 31 by omega), hg s (by omega)]
      refine ⟨vp_in_nI (by omega) (by omega), pk_le (ti s) (ti s) (fun _ => ?_) (fun z => absurd z (by omega))⟩
      rw [nI_1]
      exact hag _ ⟨lk, by rw [cum], by rw [cum]; exact hlk⟩
  · rintro st again ⟨lk, rfl, hlk⟩
    rw [← hMS] at hlk ⊢
    rw [wbX7_chains_18]
    refine wp_settM (by omega) hg0 (pk_le (2 ^ K) (2 ^ K) (fun _ => ?_) (fun z => absurd z (by omega)))
    refine pk_eq M 0 (fun z => ?_) (fun z => ?_)
    · subst z
      exact h lk chd left (fun i hi => absurd hi (Nat.not_lt_zero _))
    · rw [(sh12 M (by omega)).1, show nI (2 ^ M) - 1 = nI (2 ^ M - 1) by obtain ⟨v, hv⟩ : ∃ v, 2 ^ M = v + 1 := ⟨2 ^ M - 1, by omega⟩; rw [hv]; exact nI_pred v]
      refine wloop_n (fun j st => ∃ lf, st = (nI (2 ^ M - 1 - j), lf) ∧ ∀ set a, 2 ^ M - 1 - j < set → set < 2 ^ M → a < M → lf (12 * set + a) = nI (LV ti M set a)) (2 ^ M - 1) ⟨left, rfl, fun set a h1 h2 => absurd h2 (by omega)⟩ ?_ ?_
      · rintro j st again2 hj ⟨lf, rfl, hlf⟩ hag2
        generalize hset : 2 ^ M - 1 - j = set at *
        have hs : set < 2 ^ M := by omega
        rw [wbX7_chains_93]
        refine pk_le set 0 (fun z => absurd z (by omega)) (fun _ => ?_)
        refine wloop_n (fun a st => ∃ lf, st = (nI a, lf) ∧ (∀ set' a', set < set' → set' < 2 ^ M → a' < M → lf (12 * set' + a') = nI (LV ti M set' a')) ∧ ∀ a', a' < a → lf (12 * set + a') = nI (LV ti M set a')) M ⟨lf, rfl, hlf, fun a' ha' => absurd ha' (Nat.not_lt_zero _)⟩ ?_ ?_
        · rintro a st again3 ha ⟨lf, rfl, hlf, hr⟩ hag3
          have put : again3 (nI (a + 1), upd lf (12 * set + a) (nI (LV ti M set a))) := hag3 _ ⟨_, rfl, fun set' a' h1 h2 h3 => by rw [pk_un (by omega)]; exact hlf set' a' h1 h2 h3, fun a' ha' => by
            by_cases e : a' = a
            · subst e; rw [pk_us]
            · rw [pk_un (by omega)]; exact hr a' (by omega)⟩
          rw [wbX7_chains_99, (sh12 M (by omega)).1, show nI (2 ^ M) - 1 = nI (2 ^ M - 1) by obtain ⟨v, hv⟩ : ∃ v, 2 ^ M = v + 1 := ⟨2 ^ M - 1, by omega⟩; rw [hv]; exact nI_pred v]
          refine pk_le M a (fun z => absurd z (by omega)) (fun _ => pk_eq set (2 ^ M - 1) (fun zf => ?_) (fun zf => ?_))
          · unfold wjX7_chains_121
            refine wloop_n (fun b st => st = (0, nI b)) M rfl ?_ ?_
            · rintro b st again4 hb rfl hag4
              rw [wbX7_chains_126]
              refine pk_le M b (fun z => absurd z (by omega)) (fun _ => ⟨fun _ => ?_, fun zb => ?_⟩)
              · rw [nI_1]; exact hag4 _ rfl
              · exact absurd ((bit_in (by omega) (by omega)).2 (by rw [zf]; exact inb_full hb)) zb
            · rintro st again4 rfl
              rw [wbX7_chains_126, show (12 : Int32) * nI set = nI (12 * set) from pk_mul 12 set, nI_add, nI_clamp (by omega), nI_1]
              refine pk_le M M (fun _ => ⟨vp_in_nI (by omega) (by omega), ?_⟩) (fun z => absurd z (by omega))
              have e0 : LV ti M set a = 0 := by unfold LV; rw [zf, cmf_full]; rfl
              rw [e0] at put
              exact put
          · obtain ⟨m, hm⟩ : ∃ m, cmf M set = m + 1 := by
              rcases Nat.eq_zero_or_pos (cmf M set) with e | e
              · exact absurd (full_of hs e) zf
              · exact ⟨cmf M set - 1, by omega⟩
            have hcm : cmf M set ≤ M := mbn_le _ _
            have hla := (lkf_ok (ti := ti) (n := 64) (b := a) (by omega)).1
            obtain ⟨s1, s2, s3, s4⟩ := step_trials (gp := fun s => pc (lkf ti 64 a ^^^ s)) hM (show m < 13 by omega) hm (gp_pl hla)
            have eLV : LV ti M set a = mnl (inb set) (fun b => pc (lkf ti 64 a ^^^ lkf ti 64 b) + LV ti M (set ||| 2 ^ b) b) M := by
              rw [← s3]; unfold LV; rw [hm]; rfl
            unfold wjX7_chains_121
            refine wloop_n (fun b st => st = (nI (mnl (inb set) (fun b => pc (lkf ti 64 a ^^^ lkf ti 64 b) + LV ti M (set ||| 2 ^ b) b) b), nI b)) M rfl ?_ ?_
            · rintro b st again4 hb rfl hag4
              have htop := mnl_top (p := inb set) (f := fun b => pc (lkf ti 64 a ^^^ lkf ti 64 b) + LV ti M (set ||| 2 ^ b) b) b
              rw [wbX7_chains_126]
              refine pk_le M b (fun z => absurd z (by omega)) (fun _ => ⟨fun zb => ?_, fun zb => ?_⟩)
              · have hi := (bit_in (by omega) (by omega)).1 zb
                rw [nI_1]
                exact hag4 _ (by rw [mnl, if_neg (fun e => by rw [hi] at e; exact absurd e.1 (by decide))])
              · have hi : inb set b = true := by
                  cases e : inb set b with
                  | true => rfl
                  | false => exact absurd ((bit_in (by omega) (by omega)).2 e) zb
                have hor := or_M hs hb
                refine wp_changes hM hM12 hlk ha hb ?_
                rw [(sh12 b (by omega)).1, nI_or, show (12 : Int32) * nI (set ||| 2 ^ b) = nI (12 * (set ||| 2 ^ b)) from pk_mul 12 _, nI_add, nI_clamp (by omega), hlf _ b (or_gt hi) hor hb, nI_add, nI_1]
                have hv := s1 b hb hi
                refine ⟨vp_in_nI (by omega) (by omega), pk_le (mnl (inb set) (fun b => pc (lkf ti 64 a ^^^ lkf ti 64 b) + LV ti M (set ||| 2 ^ b) b) b) (pc (lkf ti 64 a ^^^ lkf ti 64 b) + LV ti M (set ||| 2 ^ b) b) (fun z => hag4 _ ?_) (fun z => hag4 _ ?_)⟩
                · rw [mnl, if_neg (fun e => by have := e.2; omega)]
                · rw [mnl, if_pos ⟨hi, z⟩]
            · rintro st again4 rfl
              rw [wbX7_chains_126, show (12 : Int32) * nI set = nI (12 * set) from pk_mul 12 set, nI_add, nI_clamp (by omega), nI_1, ← eLV]
              exact pk_le M M (fun _ => ⟨vp_in_nI (by omega) (by omega), put⟩) (fun z => absurd z (by omega))
        · rintro st again3 ⟨lf, rfl, hlf, hr⟩
          rw [wbX7_chains_99]
          refine pk_le M M (fun _ => ?_) (fun z => absurd z (by omega))
          have e1 : nI set + (-1) = nI (2 ^ M - 1 - (j + 1)) := by rw [show set = (2 ^ M - 1 - (j + 1)) + 1 by omega]; exact pk_m1 _
          rw [e1]
          refine hag2 _ ⟨lf, rfl, fun set' a' h1 h2 h3 => ?_⟩
          by_cases e : set' = set
          · subst e; exact hr a' h3
          · exact hlf set' a' (by omega) h2 h3
      · rintro st again2 ⟨lf, rfl, hlf⟩
        rw [Nat.sub_self] at hlf ⊢
        rw [wbX7_chains_93]
        refine pk_le 0 0 (fun _ => ?_) (fun z => absurd z (by omega))
        have hr0 := rmf_0 (ti := ti) hM hC.2.1
        have hc0 : cmf M 0 = M := by
          have h1 := tot_rmf (ti := ti) hM 0
          rw [hr0, hC.2.2.1] at h1; omega
        obtain ⟨m, hm⟩ : ∃ m, M = m + 1 := ⟨M - 1, by omega⟩
        have hin0 : ∀ b, inb 0 b = true := fun b => by unfold inb; rw [Nat.zero_testBit]; rfl
        obtain ⟨s1, s2, s3, s4⟩ := step_trials (ti := ti) (set := 0) (gp := fun _ => 0) hM (show m < 13 by omega) (by rw [hc0]; exact hm) (fun _ => Or.inl (by omega))
        rw [hr0] at s3 s4
        have hbest : ∀ b, b < M → lf (12 * 2 ^ b + b) = nI (LV ti M (2 ^ b) b) := fun b hb => hlf _ b (Nat.two_pow_pos b) (Nat.pow_lt_pow_right (by omega) hb) hb
        refine wloop_n (fun a st => st = (nI (mnl (inb 0) (fun b => 0 + LV ti M (0 ||| 2 ^ b) b) a), nI a)) M rfl ?_ ?_
        · rintro a st again3 ha rfl hag3
          have htop := mnl_top (p := inb 0) (f := fun b => 0 + LV ti M (0 ||| 2 ^ b) b) a
          have hpa := (sh12 a (by omega)).2.2
          have hpaM : 2 ^ a < 2 ^ M := Nat.pow_lt_pow_right (by omega) ha
          have hle := LV_le (ti := ti) (set := 2 ^ a) hM hM12 ha
          rw [wbX7_chains_223, (sh12 a (by omega)).1, show (12 : Int32) * nI (2 ^ a) = nI (12 * 2 ^ a) from pk_mul 12 _, nI_add, nI_clamp (by omega), hbest a ha, nI_1]
          refine pk_le M a (fun z => absurd z (by omega)) (fun _ => ⟨vp_in_nI (by omega) (by omega), pk_le (mnl (inb 0) (fun b => 0 + LV ti M (0 ||| 2 ^ b) b) a) (LV ti M (2 ^ a) a) (fun z => hag3 _ ?_) (fun z => ⟨vp_in_nI (by omega) (by omega), hag3 _ ?_⟩)⟩)
          · rw [mnl, Nat.zero_or, Nat.zero_add, if_neg (fun e => by have := e.2; omega)]
          · rw [mnl, Nat.zero_or, Nat.zero_add, if_pos ⟨hin0 a, z⟩]
        · rintro st again3 rfl
          rw [wbX7_chains_223, ← s3, ← hm]
          refine pk_le M M (fun _ => ?_) (fun z => absurd z (by omega))
          have hcb72 : cbs M ti (fun _ => 0) < 10000 := by
            rw [hm, s3]
            obtain ⟨a1, a2, a3, a4⟩ := aml_ok s1 s2
            rw [← a3]; exact s1 _ a1 a2
          refine wloop_n (fun i st => ∃ set lst gp chd', st = (nI set, lst, nI (cbs (M - i) (rmf ti M set) gp), nI i, chd') ∧ set < 2 ^ M ∧ cmf M set = M - i ∧ ((lst = -1 ∧ gp = fun _ => 0) ∨ ∃ lb, lb < M ∧ lst = nI lb ∧ gp = fun t => pc (lkf ti 64 lb ^^^ t)) ∧ cbs (M - i) (rmf ti M set) gp < 10000 ∧ (∀ j, j < i → chd' j = nI (css M ti (fun _ => 0) j)) ∧ ∀ j, css M ti (fun _ => 0) (i + j) = css (M - i) (rmf ti M set) gp j) M ⟨0, -1, fun _ => 0, chd, by rw [hr0, Nat.sub_zero]; rfl, hpM, by rw [hc0, Nat.sub_zero], Or.inl ⟨rfl, rfl⟩, by rw [hr0, Nat.sub_zero]; exact hcb72, fun j hj => absurd hj (Nat.not_lt_zero _), fun j => by rw [hr0, Nat.sub_zero, Nat.zero_add]⟩ ?_ ?_
          · rintro i st again4 hi ⟨set, lst, gp, chd', rfl, hset, hcm, hlst, hcb, hch, hcs⟩ hag4
            obtain ⟨m2, hm2⟩ : ∃ m2, M - i = m2 + 1 := ⟨M - i - 1, by omega⟩
            rw [hm2] at hcm hcb hcs ⊢
            have hgp : ∀ s, gp s ≤ 6 ∨ 64 ≤ s := by
              rcases hlst with ⟨_, e⟩ | ⟨lb, h1, _, e⟩
              · subst e; exact fun _ => Or.inl (Nat.zero_le 6)
              · subst e; exact gp_pl (lkf_ok (by omega)).1
            obtain ⟨t1, t2, t3, t4⟩ := step_trials (ti := ti) hM (show m2 < 13 by omega) hcm hgp
            obtain ⟨a1, a2, a3, a4⟩ := aml_ok t1 t2
            rw [wbX7_chains_279]
            refine pk_le M i (fun z => absurd z (by omega)) (fun _ => ?_)
            generalize hbs : aml (inb set) (fun b => gp (lkf ti 64 b) + LV ti M (set ||| 2 ^ b) b) M = bs at *
            -- one try of b
            have tryb : ∀ b, b < M → inb set b = true → ∀ again5 : Int32 → Prop, ((gp (lkf ti 64 b) + LV ti M (set ||| 2 ^ b) b = cbs (m2 + 1) (rmf ti M set) gp) → again4 (nI (set ||| 2 ^ b), nI b, nI (LV ti M (set ||| 2 ^ b) b), nI (i + 1), upd chd' i (nI (lkf ti 64 b)))) → (gp (lkf ti 64 b) + LV ti M (set ||| 2 ^ b) b ≠ cbs (m2 + 1) (rmf ti M set) gp → again5 (nI (b + 1))) → wbX7_chains_291 lk lf (nI set) lst (nI (cbs (m2 + 1) (rmf ti M set) gp)) (nI i) chd' again4 (nI b) again5 := by
              intro b hb hi2 again5 k1 k2
              have hor := or_M hset hb
              have hv := t1 b hb hi2
              have J : ∀ v, v = gp (lkf ti 64 b) → wjX7_chains_319 lk lf (nI set) (nI (cbs (m2 + 1) (rmf ti M set) gp)) (nI i) chd' again4 (nI b) again5 (nI v) := by
                intro v hv2
                subst hv2
                unfold wjX7_chains_319
                rw [(sh12 b (by omega)).1, nI_or, show (12 : Int32) * nI (set ||| 2 ^ b) = nI (12 * (set ||| 2 ^ b)) from pk_mul 12 _, nI_add, nI_clamp (show 12 * (set ||| 2 ^ b) + b < 2 ^ 31 by omega), hlf _ b (Nat.lt_of_le_of_lt (Nat.zero_le _) (or_gt hi2)) hor hb, nI_add, nI_1, nI_1, nI_clamp (show i < 2 ^ 31 by omega), nI_clamp (show b < 2 ^ 31 by omega), hlk b hb]
                exact ⟨vp_in_nI (by omega) (by omega), pk_eq (gp (lkf ti 64 b) + LV ti M (set ||| 2 ^ b) b) (cbs (m2 + 1) (rmf ti M set) gp) (fun z => ⟨vp_in_nI (by omega) (by omega), vp_in_nI (by omega) (by omega), vp_in_nI (by omega) (by omega), k1 z⟩) (fun z => k2 z)⟩
              rw [wbX7_chains_291]
              refine ⟨fun zb => ?_, fun _ => ?_⟩
              · have := (bit_in (by omega) (by omega)).1 zb
                rw [hi2] at this; exact absurd this (by decide)
              · rcases hlst with ⟨e1, e2⟩ | ⟨lb, l1, l2, l3⟩
                · exact ⟨fun _ => J 0 (by rw [e2]), fun z => absurd e1 z⟩
                · refine ⟨fun z => absurd (by rw [← l2]; exact z) (nI_m1 (show lb < 2 ^ 31 by omega)), fun _ => ?_⟩
                  rw [l2]
                  exact wp_changes hM hM12 hlk l1 hb (J _ (by rw [l3]))
            refine wloop_n (fun b st => st = nI b) bs rfl ?_ ?_
            · rintro b st again5 hb rfl hag5
              cases hi2 : inb set b with
              | false =>
                rw [wbX7_chains_291]
                refine ⟨fun _ => by rw [nI_1]; exact hag5 _ rfl, fun zb => absurd ((bit_in (by omega) (by omega)).2 hi2) zb⟩
              | true =>
                refine tryb b (by omega) hi2 again5 (fun e => ?_) (fun _ => hag5 _ rfl)
                have := a4 b hb hi2
                rw [← t3, e] at this
                exact absurd this (Nat.lt_irrefl _)
            · rintro st again5 rfl
              refine tryb bs a1 a2 again5 (fun _ => ?_) (fun z => absurd (by rw [t3]; exact a3) z)
              have hor := or_M hset a1
              have hd := cmf_dcr a1 a2
              have ef : cbs m2 (rmf ti M (set ||| 2 ^ bs)) (fun t => pc (lkf ti 64 bs ^^^ t)) = LV ti M (set ||| 2 ^ bs) bs := by
                unfold LV
                rw [show cmf M (set ||| 2 ^ bs) = m2 by omega]
                cases m2 <;> rfl
              have hle := LV_le (ti := ti) (set := set ||| 2 ^ bs) hM hM12 a1
              have e3 : M - (i + 1) = m2 := by omega
              refine hag4 _ ⟨set ||| 2 ^ bs, nI bs, fun t => pc (lkf ti 64 bs ^^^ t), _, by rw [e3, ef], hor, by omega, Or.inr ⟨bs, a1, rfl, rfl⟩, by rw [e3, ef]; omega, fun j hj => ?_, fun j => ?_⟩
              · by_cases e : j = i
                · subst e
                  have e0 := hcs 0
                  rw [Nat.add_zero, css, t4] at e0
                  rw [pk_us, e0]
                · rw [pk_un e]; exact hch j (by omega)
              · have e1 := hcs (j + 1)
                rw [css, t4] at e1
                rw [show i + 1 + j = i + (j + 1) by omega, e1, e3, rmf_dcr a1 a2]
          · rintro st again4 ⟨set, lst, gp, chd', rfl, hset, hcm, hlst, hcb, hch, hcs⟩
            rw [wbX7_chains_279]
            exact pk_le M M (fun _ => h lk chd' lf hch) (fun z => absurd z (by omega))
