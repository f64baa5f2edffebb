/-! the steps: drop, plan, clear -/
theorem wp_drop {n j : Nat} (hn : n ≤ 5) (hj : j < n) {te : Nat → Nat} {terms : Nat → Int32} (ht : ∀ i, i < n → terms i = nI (te i)) {k : Int32 → (Nat → Int32) → Prop} (h : ∀ f, (∀ a, a + 1 < n → f a = nI (if a < j then te a else te (a + 1))) → k (nI (n - 1)) f) : wpX1_dropTerm (nI n) terms (nI j) k := by
  unfold wpX1_dropTerm
  rw [nI_1]
  refine wloop_n (fun i st => ∃ f, st = (nI (j + 1 + i), f) ∧ ∀ a, a < n → f a = nI (if j ≤ a ∧ a < j + i then te (a + 1) else te a)) (n - (j + 1)) ⟨terms, rfl, fun a ha => ?_⟩ ?_ ?_
  · rw [if_neg (by omega)]; exact ht a ha
  · rintro i st again hi ⟨f, rfl, hf⟩ hag
    rw [wbX1_dropTerm_4]
    refine pk_le n (j + 1 + i) (fun z => absurd z (by omega)) (fun _ => ?_)
    rw [show j + 1 + i = (j + i) + 1 by omega, nI_pred, nI_clamp (by omega), nI_clamp (by omega), nI_1]
    refine ⟨vp_in_nI (by omega) (by omega), vp_in_nI (by omega) (by omega), hag _ ⟨_, by rw [show j + 1 + (i + 1) = j + i + 1 + 1 by omega], fun a ha => ?_⟩⟩
    by_cases e : a = j + i
    · subst e; rw [pk_us, if_pos (by omega), hf _ (by omega), if_neg (by omega)]
    · rw [pk_un e, hf a ha]
      by_cases e2 : j ≤ a ∧ a < j + i
      · rw [if_pos e2, if_pos (by omega)]
      · rw [if_neg e2, if_neg (by omega)]
  · rintro st again ⟨f, rfl, hf⟩
    rw [wbX1_dropTerm_4]
    refine pk_le n (j + 1 + (n - (j + 1))) (fun _ => ?_) (fun z => absurd z (by omega))
    rw [show nI n - 1 = nI (n - 1) by obtain ⟨m, rfl⟩ : ∃ m, n = m + 1 := ⟨n - 1, by omega⟩; exact nI_pred m]
    refine h f (fun a ha => ?_)
    rw [hf a (by omega)]
    by_cases e : a < j
    · rw [if_pos e, if_neg (by omega)]
    · rw [if_neg e, if_pos (by omega)]
theorem lb_step_2 (x : XS) (y : MS) (a1 : Int32) (h : LInv x y) : ∃ bud, bud ≤ 49152 ∧ wpL_2 x y a1 bud (fun x9 y9 => LInv x9 y9 ∧ pot x + bud ≤ pot x9) := by
  refine ⟨0, by omega, ?_⟩
  obtain ⟨hB, hH, hP, hC⟩ := h
  obtain ⟨K, n, te, ti, wo, mk, c, pl, rd, hV, hD, hbg⟩ := BR_open hB
  have hV' := hV
  obtain ⟨⟨hK1, hK6⟩, ⟨hn1, hn5⟩, hte, hdi, hti, htz, htot, hwo, hin, hmk, hc, hpl, hrd⟩ := hV'
  have hD' := hD
  obtain ⟨d1, d2, d3, d4, d5, d6, d7, d8, d9, d10, d11⟩ := hD'
  unfold wpL_2 wpX6_drop
  have A : (a1 < 0 ∨ nI n ≤ a1 ∨ n = 1) → wpM_2 y a1 0 (fun y9 => LInv x y9 ∧ pot x + 0 ≤ pot x) := by
    intro hb1
    unfold wpM_2 wpX7_drop
    refine hbg _ (fun g b hb hG => ?_)
    have hR : RR x.1 g := ⟨K, n, te, ti, wo, mk, c, pl, rd, hV, hD, hG⟩
    obtain ⟨g1, g2, g3, g4, g5, g6, g7, g8, g9⟩ := hG
    have L : LInv x ((y.1.1, b, g, y.1.2.2.2), (0, y.2.1.2), y.2.2) := ⟨Or.inl ⟨hb, hR⟩, hH, hP, hC⟩
    rw [g2]
    refine ⟨fun _ => ⟨fun _ => ⟨L, Nat.le_refl _⟩, fun z => z rfl⟩, fun z1 => ⟨fun _ => ⟨fun _ => ⟨L, Nat.le_refl _⟩, fun z => z rfl⟩, fun z2 => ⟨fun _ => ⟨fun _ => ⟨L, Nat.le_refl _⟩, fun z => z rfl⟩, fun z3 => ?_⟩⟩⟩
    rcases hb1 with h | h | h
    · exact absurd h z1
    · exact absurd h z2
    · subst h; exact absurd rfl z3
  refine ⟨fun z => A (Or.inl z), fun z1 => ⟨fun z => A (Or.inr (Or.inl (by rw [← d2]; exact z))), fun z2 => ⟨fun z => A (Or.inr (Or.inr ?_)), fun z3 => ?_⟩⟩⟩
  · rw [d2] at z; exact (nI_eq (by omega) (by omega)).1 z
  · rw [d2] at z2 z3
    obtain ⟨j, hj, rfl⟩ : ∃ j, j < n ∧ a1 = nI j := by
      rcases has_cases a1 (n := n) (by omega) with h | h | h
      · exact h
      · exact absurd h z1
      · exact absurd h z2
    have hn2 : n ≠ 1 := fun e => by subst e; exact z3 rfl
    obtain ⟨h, p, hh, hp, e1, e2, e3, hjj⟩ := hH
    refine wp_keepX hh hp e1 e2 ?_
    rw [d2]
    refine wp_drop hn5 hj d6 (fun f hf => ?_)
    unfold wpM_2 wpX7_drop
    refine hbg _ (fun g b hb hG => ?_)
    have hR : RR x.1 g := ⟨K, n, te, ti, wo, mk, c, pl, rd, hV, hD, hG⟩
    obtain ⟨g1, g2, g3, g4, g5, g6, g7, g8, g9⟩ := hG
    rw [g2]
    refine ⟨fun z => absurd z z1, fun _ => ⟨fun z => absurd z z2, fun _ => ⟨fun z => absurd z z3, fun _ => wp_keepM hh e3 (fun kept' hk => ?_)⟩⟩⟩
    refine wloop_n (fun i st => ∃ f, st = (nI (j + i), f) ∧ (∀ a, a < n → f (2 + a) = nI (if j ≤ a ∧ a < j + i then te (a + 1) else te a)) ∧ (∀ q, q < 2 ∨ 7 ≤ q → f q = g q)) (n - (j + 1)) ⟨g, rfl, fun a ha => ?_, fun _ _ => rfl⟩ ?_ ?_
    · rw [if_neg (by omega)]; exact g3 a ha
    · rintro i st again hi ⟨f, rfl, hf, hf2⟩ hag
      rw [wbX7_drop_41, hf2 1 (by omega), g2, nI_1]
      refine pk_le n (j + i + 1) (fun z => absurd z (by omega)) (fun _ => ?_)
      rw [show (2 : Int32) + nI (j + i) = nI (2 + (j + i)) from nI_add 2 (j + i), nI_1, nI_clamp (by omega), nI_clamp (by omega)]
      refine ⟨vp_in_nI (by omega) (by omega), vp_in_nI (by omega) (by omega), hag _ ⟨_, by rw [show j + (i + 1) = j + i + 1 by omega], fun a ha => ?_, fun q hq => ?_⟩⟩
      · by_cases e : a = j + i
        · subst e; rw [pk_us, if_pos (by omega), show 2 + (j + i) + 1 = 2 + (j + i + 1) by omega, hf _ (by omega), if_neg (by omega)]
        · rw [pk_un (by omega), hf a ha]
          by_cases e2 : j ≤ a ∧ a < j + i
          · rw [if_pos e2, if_pos (by omega)]
          · rw [if_neg e2, if_neg (by omega)]
      · rw [pk_un (by omega), hf2 q hq]
    · rintro st again ⟨f2, rfl, hf2, hf3⟩
      rw [wbX7_drop_41, hf3 1 (by omega), g2, nI_1]
      have e5 : nI n - 1 = nI (n - 1) := by obtain ⟨m, rfl⟩ : ∃ m, n = m + 1 := ⟨n - 1, by omega⟩; exact nI_pred m
      refine pk_le n (j + (n - (j + 1)) + 1) (fun _ => ?_) (fun z => absurd z (by omega))
      rw [pk_us, e5, show (2 : Int32) + nI (n - 1) = nI (2 + (n - 1)) from nI_add 2 (n - 1), nI_clamp (by omega)]
      refine ⟨vp_in_nI (by omega) (by omega), fun _ => ⟨⟨Or.inl ⟨hb, ?_⟩, HI_keep hh hp hjj (by rw [← d2]; exact hR) hk, hP, hC⟩, Nat.le_refl _⟩, fun z => z rfl⟩
      show RR (x.1.1, nI (n - 1), x.1.2.2.1, x.1.2.2.2.1, x.1.2.2.2.2.1, f, x.1.2.2.2.2.2.2) (upd (upd f2 1 (nI (n - 1))) (2 + (n - 1)) 0)
      have G : ∀ q, q = 0 ∨ 7 ≤ q → upd (upd f2 1 (nI (n - 1))) (2 + (n - 1)) 0 q = g q := fun q hq => by rw [pk_un (by omega), pk_un (by omega), hf3 q (by omega)]
      refine ⟨K, n - 1, fun a => if a < j then te a else te (a + 1), ti, wo, mk, c, pl, rd, ⟨⟨hK1, hK6⟩, ⟨by omega, by omega⟩, fun i hi => ?_, fun i i' h1 h2 => ?_, hti, htz, htot, hwo, hin, hmk, hc, hpl, hrd⟩, ⟨d1, rfl, d3, d4, d5, fun i hi => hf i (by omega), d7, d8, d9, d10, d11⟩, ⟨?_, ?_, fun i hi => ?_, fun s hs => ?_, fun i hi => ?_, fun i hi h0 => ?_, ?_, fun s hs => ?_, fun s hs => ?_⟩⟩
      · dsimp only
        by_cases e : i < j
        · rw [if_pos e]; exact hte i (by omega)
        · rw [if_neg e]; exact hte _ (by omega)
      · dsimp only
        by_cases e : i < j
        · rw [if_pos e]
          by_cases e' : i' < j
          · rw [if_pos e']; exact hdi i i' h1 (by omega)
          · rw [if_neg e']; exact hdi i (i' + 1) (by omega) (by omega)
        · rw [if_neg e, if_neg (show ¬ i' < j by omega)]; exact hdi _ _ (by omega) (by omega)
      · rw [G _ (by omega), g1]
      · rw [pk_un (by omega), pk_us]
      · rw [pk_un (by omega), pk_un (by omega), hf2 i (by omega)]
        dsimp only
        by_cases e : i < j
        · rw [if_pos e, if_neg (by omega)]
        · rw [if_neg e, if_pos (by omega)]
      · rw [G _ (by omega), g4 s hs]
      · rw [G _ (by omega), g5 i hi]
      · rw [G _ (by omega), g6 i hi h0]
      · rw [G _ (by omega), g7]
      · rw [G _ (by omega), g8 s hs]
      · rw [G _ (by omega), g9 s hs]
theorem lb_step_3 (x : XS) (y : MS) (a1 : Int32) (a2 : Int32) (h : LInv x y) : ∃ bud, bud ≤ 49152 ∧ wpL_3 x y a1 a2 bud (fun x9 y9 => LInv x9 y9 ∧ pot x + bud ≤ pot x9) := by
  refine ⟨0, by omega, ?_⟩
  obtain ⟨hB, hH, hP, hC⟩ := h
  obtain ⟨K, n, te, ti, wo, mk, c, pl, rd, hV, hD, hbg⟩ := BR_open hB
  have hV' := hV
  obtain ⟨⟨hK1, hK6⟩, ⟨hn1, hn5⟩, hte, hdi, hti, htz, htot, hwo, hin, hmk, hc, hpl, hrd⟩ := hV'
  have hD' := hD
  obtain ⟨d1, d2, d3, d4, d5, d6, d7, d8, d9, d10, d11⟩ := hD'
  have h64 := p64 hK6
  unfold wpL_3 wpX6_plan
  have A : ((∀ j, j < 2 ^ K → a1 ≠ nI j) ∨ a2 < 0 ∨ 9 < a2 ∨ (∃ j, j < 2 ^ K ∧ a1 = nI j ∧ ¬ iI (tot ti 64) - nI (ti j) + a2 ≤ 40)) → wpM_3 y a1 a2 0 (fun y9 => LInv x y9 ∧ pot x + 0 ≤ pot x) := by
    intro hb1
    unfold wpM_3 wpX7_plan
    refine hbg _ (fun g b hb hG => ?_)
    have hR : RR x.1 g := ⟨K, n, te, ti, wo, mk, c, pl, rd, hV, hD, hG⟩
    obtain ⟨g1, g2, g3, g4, g5, g6, g7, g8, g9⟩ := hG
    have L : LInv x ((y.1.1, b, g, y.1.2.2.2), (0, y.2.1.2), y.2.2) := ⟨Or.inl ⟨hb, hR⟩, hH, hP, hC⟩
    refine wp_isM (by omega) g1 _ (fun j hj e => ?_) (fun _ => ⟨fun _ => ⟨fun _ => ⟨L, Nat.le_refl _⟩, fun z => z rfl⟩, fun z => absurd rfl z⟩)
    refine ⟨fun z => absurd z (by decide), fun _ => ⟨fun _ => ⟨fun _ => ⟨L, Nat.le_refl _⟩, fun z => z rfl⟩, fun z1 => ⟨fun _ => ⟨fun _ => ⟨L, Nat.le_refl _⟩, fun z => z rfl⟩, fun z2 => wp_trials g4 ?_⟩⟩⟩
    subst e
    rw [show (7 : Int32) + nI j = nI (7 + j) from nI_add 7 j, nI_clamp (by omega), g4 j (by omega)]
    refine ⟨vp_in_nI (by omega) (by omega), fun z3 => ?_, fun _ => ⟨fun _ => ⟨L, Nat.le_refl _⟩, fun z => z rfl⟩⟩
    rcases hb1 with h | h | h | ⟨j', hj', e', h⟩
    · exact absurd rfl (h j hj)
    · exact absurd h z1
    · exact absurd h z2
    · have : j' = j := ((nI_eq (by omega) (by omega)).1 e').symm
      subst this; exact absurd z3 h
  refine wp_hasX (by omega) d1 a1 (fun j hj ea => ?_) (fun hno => ⟨fun _ => A (Or.inl hno), fun z => absurd rfl z⟩)
  subst ea
  refine ⟨fun z => absurd z (by decide), fun _ => ⟨fun z => A (Or.inr (Or.inl z)), fun z1 => ⟨fun z2 => ?_, fun z2 => A (Or.inr (Or.inr (Or.inl (Int32.not_le.1 z2))))⟩⟩⟩
  rw [nI_clamp (by omega), d7 j (by omega), d3]
  refine ⟨vp_in_nI (by omega) (by omega), fun z3 => ?_, fun z3 => by rw [← d3]; exact A (Or.inr (Or.inr (Or.inr ⟨j, hj, rfl, z3⟩)))⟩
  obtain ⟨m, hm, rfl⟩ := nI_of2 (x := a2) (M := 9) (n := 9) rfl z1 z2
  have hm2 : tot ti 64 - ti j + m ≤ 40 := by
    have b1 := tot_nonneg ti 64
    have b2 := hti j
    rw [nI_iI (ti j), nI_iI m, iI_sub, iI_add, show (40 : Int32) = iI 40 from rfl, iI_le (by omega) (by decide)] at z3
    exact z3
  obtain ⟨h, p, hh, hp, e1, e2, e3, hjj⟩ := hH
  refine wp_keepX hh hp e1 e2 ?_
  unfold wpX1_tryTimes
  rw [nI_clamp (by omega), d7 j (by omega)]
  refine ⟨vp_in_nI (by omega) (by omega), vp_in_nI (by omega) (by omega), ?_⟩
  rw [nI_iI (ti j), nI_iI m, iI_sub, iI_add]
  unfold wpM_3 wpX7_plan
  refine hbg _ (fun g b hb hG => ?_)
  have hR : RR x.1 g := ⟨K, n, te, ti, wo, mk, c, pl, rd, hV, hD, hG⟩
  obtain ⟨g1, g2, g3, g4, g5, g6, g7, g8, g9⟩ := hG
  refine wp_isM (by omega) g1 _ (fun j' hj' e => ?_) (fun hn => absurd rfl (hn j hj))
  rw [← nI_iI m]
  refine ⟨fun z => absurd z (by decide), fun _ => ⟨fun z => absurd z z1, fun _ => ⟨fun z => absurd z (Int32.not_lt.2 z2), fun _ => wp_trials g4 ?_⟩⟩⟩
  rw [show (7 : Int32) + nI j = nI (7 + j) from nI_add 7 j, nI_clamp (by omega), g4 j (by omega)]
  refine ⟨vp_in_nI (by omega) (by omega), fun _ => wp_keepM hh e3 (fun kept' hk => ⟨vp_in_nI (by omega) (by omega), fun _ => ⟨⟨Or.inl ⟨hb, ?_⟩, HI_keep hh hp hjj (by rw [← d3]; exact hR) hk, hP, hC⟩, Nat.le_refl _⟩, fun z => z rfl⟩), fun z => absurd z3 z⟩
  show RR (x.1.1, x.1.2.1, iI (tot ti 64 + ((m : Int) - ti j)), x.1.2.2.2.1, x.1.2.2.2.2.1, x.1.2.2.2.2.2.1, upd x.1.2.2.2.2.2.2.1 j (nI m), x.1.2.2.2.2.2.2.2) (upd g (7 + j) (nI m))
  have G : ∀ q, q ≠ 7 + j → upd g (7 + j) (nI m) q = g q := fun q hq => pk_un hq
  refine ⟨K, n, te, fun s => if s = j then m else ti s, wo, mk, c, pl, rd, ⟨⟨hK1, hK6⟩, ⟨hn1, hn5⟩, hte, hdi, fun s => ?_, fun s hs => ?_, by rw [tot_upd ti m (by omega)]; exact hm2, hwo, hin, hmk, hc, hpl, hrd⟩, ⟨d1, d2, by rw [tot_upd ti m (by omega)]; show iI _ = iI _; congr 1; omega, d4, d5, d6, fun s hs => ?_, d8, d9, d10, d11⟩, ⟨?_, ?_, fun i hi => ?_, fun s hs => ?_, fun i hi => ?_, fun i hi h0 => ?_, ?_, fun s hs => ?_, fun s hs => ?_⟩⟩
  · dsimp only; split
    · exact hm
    · exact hti s
  · dsimp only; rw [if_neg (by omega)]; exact htz s hs
  · dsimp only
    by_cases e : s = j
    · subst e; rw [if_pos rfl, pk_us]
    · rw [if_neg e, pk_un e, d7 s hs]
  · rw [G _ (by omega), g1]
  · rw [G _ (by omega), g2]
  · rw [G _ (by omega), g3 i hi]
  · dsimp only
    by_cases e : s = j
    · subst e; rw [if_pos rfl, pk_us]
    · rw [if_neg e, pk_un (by omega), g4 s hs]
  · rw [G _ (by omega), g5 i hi]
  · rw [G _ (by omega), g6 i hi h0]
  · rw [G _ (by omega), g7]
  · rw [G _ (by omega), g8 s hs]
  · rw [G _ (by omega), g9 s hs]
theorem lb_step_4 (x : XS) (y : MS)  (h : LInv x y) : ∃ bud, bud ≤ 49152 ∧ wpL_4 x y  bud (fun x9 y9 => LInv x9 y9 ∧ pot x + bud ≤ pot x9) := by
  refine ⟨0, by omega, ?_⟩
  obtain ⟨hB, hH, hP, hC⟩ := h
  obtain ⟨K, n, te, ti, wo, mk, c, pl, rd, hV, hD, hbg⟩ := BR_open hB
  have hV' := hV
  obtain ⟨⟨hK1, hK6⟩, ⟨hn1, hn5⟩, hte, hdi, hti, htz, htot, hwo, hin, hmk, hc, hpl, hrd⟩ := hV'
  have hD' := hD
  obtain ⟨d1, d2, d3, d4, d5, d6, d7, d8, d9, d10, d11⟩ := hD'
  unfold wpL_4 wpX6_clear
  obtain ⟨h, p, hh, hp, e1, e2, e3, hjj⟩ := hH
  refine wp_keepX hh hp e1 e2 ?_
  unfold wpX1_tryNothing wpM_4 wpX7_clear
  refine hbg _ (fun g b hb hG => ?_)
  have hR : RR x.1 g := ⟨K, n, te, ti, wo, mk, c, pl, rd, hV, hD, hG⟩
  obtain ⟨g1, g2, g3, g4, g5, g6, g7, g8, g9⟩ := hG
  refine wp_keepM hh e3 (fun kept' hk => ?_)
  refine wloop_n (fun i st => ∃ f, st = (nI i, f) ∧ (∀ s, s < i → f (7 + s) = 0) ∧ ∀ q, q < 7 ∨ 71 ≤ q → f q = g q) 64 ⟨g, rfl, fun s hs => absurd hs (Nat.not_lt_zero _), fun _ _ => rfl⟩ ?_ ?_
  · rintro i st again hi ⟨f, rfl, hf, hf2⟩ hag
    rw [wbX7_clear_15]
    refine pk_le 64 i (fun z => absurd z (by omega)) (fun _ => ?_)
    rw [show (7 : Int32) + nI i = nI (7 + i) from nI_add 7 i, nI_clamp (by omega), nI_1]
    refine ⟨vp_in_nI (by omega) (by omega), hag _ ⟨_, rfl, fun s hs => ?_, fun q hq => ?_⟩⟩
    · by_cases e : s = i
      · subst e; rw [pk_us]
      · rw [pk_un (by omega), hf s (by omega)]
    · rw [pk_un (by omega), hf2 q hq]
  · rintro st again ⟨f, rfl, hf, hf2⟩
    rw [wbX7_clear_15]
    refine pk_le 64 64 (fun _ => ⟨⟨Or.inl ⟨hb, ?_⟩, HI_keep hh hp hjj hR hk, hP, hC⟩, Nat.le_refl _⟩) (fun z => absurd z (by omega))
    have t0 : tot (fun _ => 0) 64 = 0 := sm_zero (fun _ _ => rfl)
    show RR (x.1.1, x.1.2.1, 0, x.1.2.2.2.1, x.1.2.2.2.2.1, x.1.2.2.2.2.2.1, (fun _ => 0), x.1.2.2.2.2.2.2.2) f
    exact ⟨K, n, te, fun _ => 0, wo, mk, c, pl, rd, ⟨⟨hK1, hK6⟩, ⟨hn1, hn5⟩, hte, hdi, fun _ => Nat.zero_le _, fun _ _ => rfl, by rw [t0]; decide, hwo, hin, hmk, hc, hpl, hrd⟩, ⟨d1, d2, by rw [t0]; rfl, d4, d5, d6, fun s hs => rfl, d8, d9, d10, d11⟩, ⟨by rw [hf2 _ (by omega), g1], by rw [hf2 _ (by omega), g2], fun i hi => by rw [hf2 _ (by omega), g3 i hi], fun s hs => hf s hs, fun i hi => by rw [hf2 _ (by omega), g5 i hi], fun i hi h0 => by rw [hf2 _ (by omega), g6 i hi h0], by rw [hf2 _ (by omega), g7], fun s hs => by rw [hf2 _ (by omega), g8 s hs], fun s hs => by rw [hf2 _ (by omega), g9 s hs]⟩⟩
