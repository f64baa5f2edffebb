/-! the class's CHAINS: reading, finding -/
theorem wp_read {ti : Nat → Nat} {M len : Nat} (hC : CT ti M) (hlen : prd (stk ti) (pcn ti 64) * pcn ti 64 ≤ len) (hlen2 : len ≤ 49152) {places stock step gaps few left op ah chd : Nat → Int32} {oc cg : Int32} (hpl : ∀ q, q < pcn ti 64 → places q = nI (plcf ti 64 q)) (hst : ∀ q, q < pcn ti 64 → stock q = nI (stk ti q)) (hsp : ∀ q, q < pcn ti 64 → step q = nI (prd (stk ti) q)) (hg : ∀ a b, a < pcn ti 64 → b < pcn ti 64 → gaps (a * 12 + b) = nI (pc (plcf ti 64 a ^^^ plcf ti 64 b))) (hg0 : ∀ j, j < 12 → gaps (144 + j) = 0) (hT : TB ti few (prd (stk ti) (pcn ti 64))) {k : (Nat → Int32) → (Nat → Int32) → (Nat → Int32) → Int32 → (Nat → Int32) → Int32 → Prop}
    (h : ∀ left' op' ah' oc' chd' cg', CR M ti cg' chd' → k left' op' ah' oc' chd' cg') : wpX0_readChain places stock step gaps (nI (pcn ti 64)) (nI (prd (stk ti) (pcn ti 64))) len few left op ah oc chd cg k := by
  have hN := CT_N hC
  have hM := hC.2.2.2
  have hcd := CT_codes hC
  have hpp := prd_pos (stk ti) (pcn ti 64)
  have hfull := cod_full (f := stk ti) (l := stk ti) (n := pcn ti 64) (fun _ _ => rfl)
  unfold wpX0_readChain
  rw [show nI (prd (stk ti) (pcn ti 64)) - 1 = nI (cod (stk ti) (stk ti) (pcn ti 64)) by rw [← hfull]; exact nI_pred _]
  refine wloop_n (fun i st => ∃ l at_ gp c0 left' op' ah' oc' chd', st = (nI (cod (stk ti) l (pcn ti 64)), nI at_, nI i, left', op', ah', oc', chd', nI c0) ∧ at_ ≤ 12 ∧ (∀ q, q < pcn ti 64 → l q ≤ stk ti q) ∧ tot l (pcn ti 64) = ((M - i : Nat) : Int) ∧ (∀ q, q < pcn ti 64 → left' q = nI (l q)) ∧ (∀ q, q < pcn ti 64 → gaps (at_ * 12 + q) = nI (gp (plcf ti 64 q))) ∧ (∀ s, gp s ≤ 6 ∨ 64 ≤ s) ∧ (0 < i ∨ ∀ s, gp s = 0) ∧ (∀ j, j < i → chd' j = nI (css M ti (fun _ => 0) j)) ∧ (∀ j, css M ti (fun _ => 0) (i + j) = css (M - i) (lsf ti l) gp j) ∧ c0 + cbs (M - i) (lsf ti l) gp = cbs M ti (fun _ => 0)) M ?_ ?_ ?_
  · refine ⟨stk ti, 12, fun _ => 0, 0, _, _, _, _, _, rfl, by omega, fun _ _ => Nat.le_refl _, by rw [CT_stk hC]; simp, hst, fun q hq => hg0 q (by omega), fun _ => Or.inl (Nat.zero_le 6), Or.inr (fun _ => rfl), fun j hj => absurd hj (Nat.not_lt_zero _), fun j => ?_, ?_⟩
    · rw [Nat.zero_add, Nat.sub_zero, show lsf ti (stk ti) = ti from funext (lsf_full hC.2.1)]
    · rw [Nat.zero_add, Nat.sub_zero, show lsf ti (stk ti) = ti from funext (lsf_full hC.2.1)]
  · rintro i st again hi ⟨l, at_, gp, c0, left', op', ah', oc', chd', rfl, hat, hl, ht, hle, hga, hgp, hg00, hch, hcs, hcb⟩ hag
    obtain ⟨m, hm⟩ : ∃ m, M - i = m + 1 := ⟨M - i - 1, by omega⟩
    rw [hm] at ht hcs hcb
    have hclt := cod_lt hl
    obtain ⟨s1, s2, s3, s4⟩ := step_places (gp := gp) (show m < 13 by omega) ht hgp
    obtain ⟨b1, b2, b3⟩ := aml_op (l := l) (n := pcn ti 64) (f := fun q => gp (plcf ti 64 q) + FV ti (dcr l q) q) s1 s2
    have hpo : pcn l (pcn ti 64) ≤ pcn ti 64 := mbn_le _ _
    obtain ⟨c1, c2, c3, c4⟩ := aml_ok s1 ⟨_, (plcf_2 b1).1, opn_t (plcf_2 b1).2.1⟩
    have hcpos := cod_pos (f := stk ti) (plcf_2 b1).1 (plcf_2 b1).2.1
    rw [wbX0_readChain_32]
    refine pk_le 12 i (fun z => absurd z (by omega)) (fun _ => pk_le (cod (stk ti) l (pcn ti 64)) 0 (fun z => absurd z (by omega)) (fun _ => ?_))
    refine wp_listOpen hC hl rfl hlen hlen2 hsp hle (TB_V hl rfl (fun l' hl' hc' => hT l' hl' (by omega))) (fun op2 ah2 ho => ?_)
    have s72 := step_72 (gp := gp) ht (fun s => by
      rcases hg00 with h | h
      · rcases hgp s with h2 | h2
        · exact Or.inl (by omega)
        · exact Or.inr h2
      · exact Or.inl (by rw [h s]; omega))
    refine wp_least (G := fun q => gp (plcf ti 64 q)) (V := fun q => FV ti (dcr l q) q) (by omega) hat s72 s2 hga ho rfl ?_
    have ho2 := ho _ (plcf_2 b1).1 (plcf_2 b1).2.1
    rw [(plcf_2 b1).2.2, b2] at ho2
    rw [nI_clamp (by omega), ho2.1]
    generalize hqs : aml (opn l) (fun q => gp (plcf ti 64 q) + FV ti (dcr l q) q) (pcn ti 64) = qs at *
    have h0 := opn_0 c2
    have hq9 : gp (plcf ti 64 qs) ≤ 6 := by
      rcases hgp (plcf ti 64 qs) with h | h
      · exact h
      · have := (plcf_2 c1).1; omega
    rw [show nI at_ * (12 : Int32) = nI (at_ * 12) from pk_mul at_ 12, nI_add, nI_clamp (show qs < 2 ^ 31 by omega), nI_clamp (show at_ * 12 + qs < 2 ^ 31 by omega), nI_clamp (show i < 2 ^ 31 by omega), hga qs c1, hsp qs c1, hpl qs c1, hle qs c1, nI_1, nI_add]
    have hdc := cod_dc (f := stk ti) (l := l) c1 h0
    rw [pk_sub (show prd (stk ti) qs ≤ cod (stk ti) l (pcn ti 64) by omega)]
    have el : nI (l qs) - 1 = nI (l qs - 1) := by obtain ⟨v, hv⟩ : ∃ v, l qs = v + 1 := ⟨l qs - 1, by omega⟩; rw [hv]; exact nI_pred v
    rw [el]
    refine ⟨vp_in_nI (by omega) (by omega), vp_in_nI (by omega) (by omega), vp_in_nI (by omega) (by omega), vp_in_nI (by omega) (by omega), vp_in_nI (by omega) (by omega), vp_in_nI (by omega) (by omega), vp_in_nI (by omega) (by omega), hag _ ⟨dcr l qs, qs, fun t => pc (plcf ti 64 qs ^^^ t), c0 + gp (plcf ti 64 qs), upd left' qs (nI (l qs - 1)), op2, ah2, nI (pcn l (pcn ti 64)), upd chd' i (nI (plcf ti 64 qs)), ?_, by omega, fun q hq => ?_, ?_, fun q hq => ?_, fun q hq => hg qs q c1 hq, gp_pl (plcf_2 c1).1, Or.inl (by omega), fun j hj => ?_, fun j => ?_, ?_⟩⟩
    · rw [show cod (stk ti) l (pcn ti 64) - prd (stk ti) qs = cod (stk ti) (dcr l qs) (pcn ti 64) by omega]
    · have := hl q hq
      unfold dcr; split <;> omega
    · rw [tot_dcr c1 h0, ht]; omega
    · by_cases e : q = qs
      · subst e; rw [pk_us, dcr_s]
      · rw [pk_un e, dcr_n e]; exact hle q hq
    · by_cases e : j = i
      · subst e
        have e0 := hcs 0
        rw [Nat.add_zero, css, s4] at e0
        rw [pk_us, e0]
      · rw [pk_un e]; exact hch j (by omega)
    · have e1 := hcs (j + 1)
      rw [css, s4] at e1
      rw [show i + 1 + j = i + (j + 1) by omega, e1, show M - (i + 1) = m by omega, lsf_dcrF c1]
    · rw [s3] at hcb
      rw [← c3, FV_dcr ht c1 h0] at hcb
      rw [show M - (i + 1) = m by omega, lsf_dcrF c1]
      have ef : cbs m (dcr (lsf ti l) (plcf ti 64 qs)) (fun t => pc (plcf ti 64 qs ^^^ t)) = fcs m (dcr (lsf ti l) (plcf ti 64 qs)) (plcf ti 64 qs) := by cases m <;> rfl
      rw [ef]; omega
  · rintro st again ⟨l, at_, gp, c0, left', op', ah', oc', chd', rfl, hat, hl, ht, hle, hga, hgp, _, hch, hcs, hcb⟩
    have hz : cod (stk ti) l (pcn ti 64) = 0 := cod_0 (fun q hq => by
      have := tot_ge l hq
      rw [ht, Nat.sub_self] at this; omega)
    have hc0 : c0 = cbs M ti (fun _ => 0) := by rw [Nat.sub_self] at hcb; exact hcb
    rw [wbX0_readChain_32, hz]
    have fin := h left' op' ah' oc' chd' (nI c0) ⟨by rw [hc0], hch⟩
    exact pk_le 12 M (fun _ => fin) (fun _ => pk_le 0 0 (fun _ => fin) (fun z => absurd z (by omega)))
theorem vz01 {v : Int32} (h : v = 0 ∨ v = 1) : vz v := by rcases h with rfl | rfl <;> exact ⟨rfl, rfl⟩
theorem wp_isAns {asked : Int32} (hz : asked = 0 ∨ asked = 1) {at_ p1 : Nat → Int32} {k : Int32 → Prop} (h1 : (∀ s, s < 64 → p1 s = at_ s) → k asked) (h0 : (¬ ∀ s, s < 64 → p1 s = at_ s) → k 0) : wpX0_isAnswered at_ asked p1 k := by
  unfold wpX0_isAnswered
  refine wloop_n (fun i st => st = nI i ∧ ∀ s, s < i → p1 s = at_ s) 64 ⟨rfl, fun s hs => absurd hs (Nat.not_lt_zero _)⟩ ?_ ?_
  · rintro i st again hi ⟨rfl, hf⟩ hag
    rw [wbX0_isAnswered_2]
    refine pk_le 64 i (fun z => absurd z (by omega)) (fun _ => ⟨vp_in_nI hi (by omega), vp_in_nI hi (by omega), ?_⟩)
    rw [nI_clamp (by omega), nI_1]
    refine ⟨fun z => hag _ ⟨rfl, fun s hs => ?_⟩, fun z => h0 (fun hall => z (hall i hi))⟩
    by_cases e : s = i
    · subst e; exact z
    · exact hf s (by omega)
  · rintro st again ⟨rfl, hf⟩
    rw [wbX0_isAnswered_2]
    exact pk_le 64 64 (fun _ => ⟨vz01 hz, h1 hf⟩) (fun z => absurd z (by omega))
theorem wp_isAns0 {asked : Int32} (hz : asked = 0 ∨ asked = 1) {at_ p1 : Nat → Int32} {k : Int32 → Prop} (hna : ¬ ((∀ s, s < 64 → p1 s = at_ s) ∧ asked ≠ 0)) (h : k 0) : wpX0_isAnswered at_ asked p1 k :=
  wp_isAns hz (fun hall => by rw [show asked = 0 from Classical.byContradiction (fun hne => hna ⟨hall, hne⟩)]; exact h) (fun _ => h)
theorem tot_eq {f g : Nat → Nat} {n : Nat} (h : ∀ s, s < n → f s = g s) : tot f n = tot g n := tot_congr h
/-- the class finds the CHAIN; what it may take of room -/
theorem wp_find0 {ti : Nat → Nat} {M : Nat} (hC : CT ti M) (p : CST) (hI : CSI p) {times : Nat → Int32} (ht : ∀ s, s < 64 → times s = nI (ti s)) : ∃ bud, bud ≤ 49152 ∧ ∀ k : CST → Prop, (∀ p', CSI p' → (if clen p < 49152 then 2 * clen p else 147456) + bud ≤ (if clen p' < 49152 then 2 * clen p' else 147456) → CR M ti p'.2.2.2.2.1 p'.2.2.2.2.2.2.2.2.2.2.2.2.2.2.2.2 → k p') → wpX0_find p.2.2.2.2.2.1 p.1 p.2.2.2.2.2.2.1 p.2.2.2.2.2.2.2.1 p.2.2.2.2.2.2.2.2.1 p.2.2.2.2.2.2.2.2.2.1 p.2.1 p.2.2.1 p.2.2.2.2.2.2.2.2.2.2.1 p.2.2.2.2.2.2.2.2.2.2.2.1 p.2.2.2.2.2.2.2.2.2.2.2.2.1 p.2.2.2.2.2.2.2.2.2.2.2.2.2.1 p.2.2.2.2.2.2.2.2.2.2.2.2.2.2.1 p.2.2.2.2.2.2.2.2.2.2.2.2.2.2.2.1 p.2.2.2.1 p.2.2.2.2.2.2.2.2.2.2.2.2.2.2.2.2 p.2.2.2.2.1 times bud (fun c0 c1 c2 c3 c4 c5 c6 c7 c8 c9 c10 c11 c12 c13 c14 c15 c16 => k (c1, c6, c7, c14, c16, c0, c2, c3, c4, c5, c8, c9, c10, c11, c12, c13, c15)) := by
  obtain ⟨hz, hrow, hlen, hans⟩ := hI
  by_cases ans : (∀ s, s < 64 → times s = p.2.2.2.2.2.1 s) ∧ p.1 ≠ 0
  · refine ⟨0, by omega, fun k hk => ?_⟩
    unfold wpX0_find
    refine wp_isAns hz (fun hall => ⟨fun z => absurd z ans.2, fun _ => ?_⟩) (fun hno => absurd ans.1 hno)
    refine hk p ⟨hz, hrow, hlen, hans⟩ (Nat.le_refl _) ?_
    obtain ⟨ti', M', a1, a2, a3, a4, a5, a6⟩ := hans ans.2
    have e1 : ∀ s, s < 64 → ti' s = ti s := fun s hs => by
      have h1 := hC.1 s
      have h2 := a2 s
      have h3 : nI (ti' s) = nI (ti s) := by rw [← a1 s hs, ← ht s hs, ans.1 s hs]
      exact (nI_eq (by omega) (by omega)).1 h3
    have e2 : ti' = ti := funext (fun s => by
      rcases Nat.lt_or_ge s 64 with h | h
      · exact e1 s h
      · rw [a3 s h, hC.2.1 s h])
    subst e2
    have e3 : M' = M := by have := hC.2.2.1; omega
    subst e3
    exact a6
  · have hN := CT_N hC
    have hM := hC.2.2.2
    have hcd := CT_codes hC
    have hneed : prd (stk ti) (pcn ti 64) * pcn ti 64 ≤ 4096 * 12 := Nat.mul_le_mul hcd (by omega)
    refine ⟨if clen p < prd (stk ti) (pcn ti 64) * pcn ti 64 then nln (clen p) (prd (stk ti) (pcn ti 64) * pcn ti 64) else 0, ?_, fun k hk => ?_⟩
    · split
      · unfold nln; omega
      · omega
    · unfold wpX0_find
      refine wp_isAns0 hz ans ⟨fun _ => wp_gather hC ht (fun pl' st' sp' h1 => ?_), fun z => absurd rfl z⟩
      · refine wp_gaps hC (fun q hq => (h1 q hq).1) hrow (fun g' hg1 hg2 => ?_)
        have cont : ∀ (q' len' : Nat) (few' : Nat → Int32), prd (stk ti) (pcn ti 64) * pcn ti 64 ≤ len' → len' ≤ 49152 → (if clen p < 49152 then 2 * clen p else 147456) + (if clen p < prd (stk ti) (pcn ti 64) * pcn ti 64 then nln (clen p) (prd (stk ti) (pcn ti 64) * pcn ti 64) else 0) ≤ (if len' < 49152 then 2 * len' else 147456) → wpX0_weighStates st' sp' g' (nI (pcn ti 64)) (nI (prd (stk ti) (pcn ti 64))) len' few' p.2.2.2.2.2.2.2.2.2.2.2.2.2.1 p.2.2.2.2.2.2.2.2.2.2.2.2.2.2.1 p.2.2.2.2.2.2.2.2.2.2.2.2.2.2.2.1 p.2.2.2.1 (fun f2 l2 o2 a2 oc2 => wpX0_readChain pl' st' sp' g' (nI (pcn ti 64)) (nI (prd (stk ti) (pcn ti 64))) len' f2 l2 o2 a2 oc2 p.2.2.2.2.2.2.2.2.2.2.2.2.2.2.2.2 p.2.2.2.2.1 (fun l3 o3 a3 oc3 ch3 cg3 => k (1, nI (pcn ti 64), nI (prd (stk ti) (pcn ti 64)), oc3, cg3, times, pl', st', sp', g', q', len', f2, l3, o3, a3, ch3))) := by
          intro q' len' few' hl1 hl2 hpot
          refine wp_weigh hC hl1 hl2 (fun q hq => (h1 q hq).2.1) (fun q hq => (h1 q hq).2.2) hg1 (fun f2 l2 o2 a2 oc2 hT => ?_)
          refine wp_read hC hl1 hl2 (fun q hq => (h1 q hq).1) (fun q hq => (h1 q hq).2.1) (fun q hq => (h1 q hq).2.2) hg1 hg2 hT (fun l3 o3 a3 oc3 ch3 cg3 hCR => ?_)
          exact hk _ ⟨Or.inr rfl, hg2, hl2, fun _ => ⟨ti, M, ht, hC.1, hC.2.1, hC.2.2.1, hM, hCR⟩⟩ hpot hCR
        refine wp_room hlen (by omega) (pk_mul _ _) (fun z => by rw [if_pos z]; exact Nat.le_refl _) (fun z => ?_) (fun z q' => ?_)
        · exact cont _ _ _ z hlen (by rw [if_neg (show ¬ clen p < prd (stk ti) (pcn ti 64) * pcn ti 64 from by omega)]; exact Nat.le_refl _)
        · refine cont _ _ _ (by unfold nln; omega) (by unfold nln; omega) ?_
          rw [if_pos z]
          have hz2 : p.2.2.2.2.2.2.2.2.2.2.2.1 < prd (stk ti) (pcn ti 64) * pcn ti 64 := z
          show (if clen p < 49152 then 2 * clen p else 147456) + nln (clen p) _ ≤ if nln (clen p) _ < 49152 then 2 * nln (clen p) _ else 147456
          have hcl : clen p < prd (stk ti) (pcn ti 64) * pcn ti 64 := z
          generalize prd (stk ti) (pcn ti 64) * pcn ti 64 = need at *
          generalize clen p = len at *
          unfold nln
          split <;> split <;> omega
