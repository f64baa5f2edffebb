/-! the steps chain, chainOf -/
theorem CT_of {K n : Nat} {te ti wo : Nat → Nat} {mk : Nat → Int} {c : Nat} {pl : Nat → Nat} {rd : Nat → Int} (hV : VA K n te ti wo mk c pl rd) (h : tot ti 64 ≤ 12) : CT ti (tot ti 64).toNat := by
  have h1 := tot_nonneg ti 64
  have h64 := p64 hV.1.2
  exact ⟨hV.2.2.2.2.1, fun s hs => hV.2.2.2.2.2.1 s (by omega), by omega, by omega⟩
theorem lb_step_23 (x : XS) (y : MS)  (h : LInv x y) : ∃ bud, bud ≤ 49152 ∧ wpL_23 x y  bud (fun x9 y9 => LInv x9 y9 ∧ pot x + bud ≤ pot x9) := by
  obtain ⟨hB, hH, hP, hC⟩ := h
  obtain ⟨K, n, te, ti, wo, mk, c, pl, rd, hV, hD, hbg⟩ := BR_open hB
  have hV' := hV
  obtain ⟨⟨hK1, hK6⟩, ⟨hn1, hn5⟩, hte, hdi, hti, htz, htot, hwo, hin, hmk, hc, hpl, hrd⟩ := hV'
  have hD' := hD
  obtain ⟨d1, d2, d3, d4, d5, d6, d7, d8, d9, d10, d11⟩ := hD'
  have htn := tot_nonneg ti 64
  by_cases h12 : tot ti 64 ≤ 12
  · have hCT := CT_of hV h12
    obtain ⟨bud, hb, hfind⟩ := wp_find0 hCT x.2.2.2.2.2.2.1 hC d7
    refine ⟨bud, hb, ?_⟩
    unfold wpL_23 wpX6_chain
    refine ⟨fun _ => hfind (fun p' => wpM_23 y p'.2.2.2.2.1 (fun y9 => LInv (x.1, x.2.1, x.2.2.1, x.2.2.2.1, x.2.2.2.2.1, x.2.2.2.2.2.1, p', x.2.2.2.2.2.2.2) y9 ∧ pot x + bud ≤ pot (x.1, x.2.1, x.2.2.1, x.2.2.2.1, x.2.2.2.2.1, x.2.2.2.2.2.1, p', x.2.2.2.2.2.2.2))) (fun p' hI hpot hCR => ?_), fun z => absurd ?_ z⟩
    · unfold wpM_23 wpX7_chain
      refine hbg _ (fun g b hb hG => wp_chains hK6 hCT htz hG.1 hG.2.2.2.1 (fun link' chd' left' hch => ⟨fun _ => ⟨⟨Or.inl ⟨hb, K, n, te, ti, wo, mk, c, pl, rd, hV, hD, hG⟩, hH, hP, hI⟩, hpot⟩, fun z => z hCR.1⟩))
    · rw [d3]; show iI _ ≤ iI 12; exact (iI_le (by omega) (by decide)).2 h12
  · refine ⟨0, by omega, ?_⟩
    have hno : ¬ iI (tot ti 64) ≤ (12 : Int32) := by
      show ¬ iI _ ≤ iI 12
      rw [iI_le (by omega) (by decide)]; exact h12
    unfold wpL_23 wpX6_chain
    refine ⟨fun z => absurd (by rw [← d3]; exact z) hno, fun _ => ?_⟩
    unfold wpM_23 wpX7_chain wpX7_chains
    exact hbg _ (fun g b hb hG => wp_trials hG.2.2.2.1 ⟨fun z => absurd z hno, fun _ => ⟨fun _ => ⟨⟨Or.inl ⟨hb, K, n, te, ti, wo, mk, c, pl, rd, hV, hD, hG⟩, hH, hP, hC⟩, Nat.le_refl _⟩, fun z => z rfl⟩⟩)
theorem lb_step_24 (x : XS) (y : MS) (a1 : Int32) (h : LInv x y) : ∃ bud, bud ≤ 49152 ∧ wpL_24 x y a1 bud (fun x9 y9 => LInv x9 y9 ∧ pot x + bud ≤ pot x9) := by
  obtain ⟨hB, hH, hP, hC⟩ := h
  obtain ⟨K, n, te, ti, wo, mk, c, pl, rd, hV, hD, hbg⟩ := BR_open hB
  have hV' := hV
  obtain ⟨⟨hK1, hK6⟩, ⟨hn1, hn5⟩, hte, hdi, hti, htz, htot, hwo, hin, hmk, hc, hpl, hrd⟩ := hV'
  have hD' := hD
  obtain ⟨d1, d2, d3, d4, d5, d6, d7, d8, d9, d10, d11⟩ := hD'
  have htn := tot_nonneg ti 64
  by_cases h12 : tot ti 64 ≤ 12
  · have hCT := CT_of hV h12
    have e12 : ¬ (12 : Int32) < iI (tot ti 64) := by
      show ¬ iI 12 < iI _
      rw [iI_lt (by decide) (by omega)]; omega
    have eM : iI (tot ti 64) = nI (tot ti 64).toNat := by rw [nI_iI]; congr 1 <;> omega
    have hcb0 : nI (cbs (tot ti 64).toNat ti (fun _ => 0)) ≠ -1 := nI_m1 (by
      have hle : ∀ m l gp, cbs m l gp ≤ 10000 := fun m l gp => by
        cases m with
        | zero => exact Nat.zero_le _
        | succ m => exact mnl_top _
      have := hle (tot ti 64).toNat ti (fun _ => 0)
      omega)
    -- the reference's way
    have M0 : (a1 < 0 ∨ ¬ a1 < nI (tot ti 64).toNat) → wpM_24 y a1 (-1) (fun y9 => LInv x y9 ∧ pot x + 0 ≤ pot x) := by
      intro hbad
      unfold wpM_24 wpX7_chainOf
      refine hbg _ (fun g b hb hG => wp_chains hK6 hCT htz hG.1 hG.2.2.2.1 (fun link' chd' left' hch => ⟨fun z => absurd z hcb0, fun _ => ?_⟩))
      have L : LInv x ((y.1.1, b, g, y.1.2.2.2), (0, y.2.1.2), y.2.2.1, y.2.2.2.1, (nI (tot ti 64).toNat, link', chd', left')) := ⟨Or.inl ⟨hb, K, n, te, ti, wo, mk, c, pl, rd, hV, hD, hG⟩, hH, hP, hC⟩
      refine ⟨fun _ => ⟨fun _ => ⟨L, Nat.le_refl _⟩, fun z => z rfl⟩, fun z1 => ⟨fun z2 => ?_, fun _ => ⟨fun _ => ⟨L, Nat.le_refl _⟩, fun z => z rfl⟩⟩⟩
      rcases hbad with h | h
      · exact absurd h z1
      · exact absurd z2 h
    by_cases hok : ¬ a1 < 0 ∧ a1 < nI (tot ti 64).toNat
    · obtain ⟨bud, hb, hfind⟩ := wp_find0 hCT x.2.2.2.2.2.2.1 hC d7
      refine ⟨bud, hb, ?_⟩
      obtain ⟨i, hi, rfl⟩ : ∃ i, i < (tot ti 64).toNat ∧ a1 = nI i := by
        rcases has_cases a1 (n := (tot ti 64).toNat) (by omega) with h | h | h
        · exact h
        · exact absurd h hok.1
        · exact absurd hok.2 (Int32.not_lt.2 h)
      unfold wpL_24 wpX6_chainOf
      refine ⟨fun z => absurd (by rw [← d3]; exact z) e12, fun _ => ⟨fun z => absurd z hok.1, fun _ => ⟨fun _ => ?_, fun z => absurd (by rw [d3, eM]; exact hok.2) z⟩⟩⟩
      refine hfind (fun p' => vp_in (nI i) 12 ∧ wpM_24 y (nI i) (p'.2.2.2.2.2.2.2.2.2.2.2.2.2.2.2.2 ((nI i).toNatClampNeg)) (fun y9 => LInv (x.1, x.2.1, x.2.2.1, x.2.2.2.1, x.2.2.2.2.1, x.2.2.2.2.2.1, p', x.2.2.2.2.2.2.2) y9 ∧ pot x + bud ≤ pot (x.1, x.2.1, x.2.2.1, x.2.2.2.1, x.2.2.2.2.1, x.2.2.2.2.2.1, p', x.2.2.2.2.2.2.2))) (fun p' hI hpot hCR => ⟨vp_in_nI (by omega) (by omega), ?_⟩)
      rw [nI_clamp (by omega), hCR.2 i hi]
      unfold wpM_24 wpX7_chainOf
      refine hbg _ (fun g b hb hG => wp_chains hK6 hCT htz hG.1 hG.2.2.2.1 (fun link' chd' left' hch => ⟨fun z => absurd z hcb0, fun _ => ⟨fun z => absurd z hok.1, fun _ => ⟨fun _ => ⟨vp_in_nI (by omega) (by omega), ?_⟩, fun z => absurd hok.2 z⟩⟩⟩))
      rw [nI_clamp (by omega), hch i hi]
      exact ⟨fun _ => ⟨⟨Or.inl ⟨hb, K, n, te, ti, wo, mk, c, pl, rd, hV, hD, hG⟩, hH, hP, hI⟩, hpot⟩, fun z => z rfl⟩
    · refine ⟨0, by omega, ?_⟩
      unfold wpL_24 wpX6_chainOf
      refine ⟨fun z => absurd (by rw [← d3]; exact z) e12, fun _ => ⟨fun z => M0 (Or.inl z), fun z1 => ⟨fun z2 => absurd ⟨z1, by rw [← eM, ← d3]; exact z2⟩ hok, fun z2 => M0 (Or.inr (by rw [← eM, ← d3]; exact z2))⟩⟩⟩
  · refine ⟨0, by omega, ?_⟩
    have hno : ¬ iI (tot ti 64) ≤ (12 : Int32) := by
      show ¬ iI _ ≤ iI 12
      rw [iI_le (by omega) (by decide)]; exact h12
    unfold wpL_24 wpX6_chainOf
    refine ⟨fun _ => ?_, fun z => absurd (by rw [d3]; exact Int32.not_le.1 hno) z⟩
    unfold wpM_24 wpX7_chainOf wpX7_chains
    exact hbg _ (fun g b hb hG => wp_trials hG.2.2.2.1 ⟨fun z => absurd z hno, fun _ => ⟨fun _ => ⟨fun _ => ⟨⟨Or.inl ⟨hb, K, n, te, ti, wo, mk, c, pl, rd, hV, hD, hG⟩, hH, hP, hC⟩, Nat.le_refl _⟩, fun z => z rfl⟩, fun z => absurd rfl z⟩⟩)
