/-! the step bestPart -/
theorem RG_part {g g' : Nat → Int32} {K n : Nat} {te ti wo u : Nat → Nat} {mk : Nat → Int} {c : Nat} {pl : Nat → Nat} {rd : Nat → Int} (hn : n ≤ 5) (hG : RG g K n te ti wo mk c pl rd) (q1 : ∀ i, i < 4 → g' (71 + i) = nI (u i)) (q2 : ∀ i, i < 4 → u i ≠ 0 → g' (75 + i) = 1) (q3 : ∀ q, q < 71 ∨ 79 ≤ q → g' q = g q) : RG g' K n te ti u (fun _ => 1) c pl rd := by
  obtain ⟨g1, g2, g3, g4, g5, g6, g7, g8, g9⟩ := hG
  refine ⟨?_, ?_, fun i hi => ?_, fun s hs => ?_, q1, fun i hi h0 => ?_, ?_, fun i hi => ?_, fun i hi => ?_⟩
  · rw [q3 _ (by omega), g1]
  · rw [q3 _ (by omega), g2]
  · rw [q3 _ (by omega), g3 i hi]
  · rw [q3 _ (by omega), g4 s hs]
  · rw [q2 i hi h0]; rfl
  · rw [q3 _ (by omega), g7]
  · rw [q3 _ (by omega), g8 i hi]
  · rw [q3 _ (by omega), g9 i hi]
theorem in4 {a1 : Int32} (h1 : ¬ a1 < 0) (h2 : ¬ (4 : Int32) < a1) : ∃ k, k ≤ 4 ∧ a1 = nI k := by
  rcases has_cases a1 (n := 5) (by omega) with ⟨j, hj, e⟩ | h | h
  · exact ⟨j, by omega, e⟩
  · exact absurd h h1
  · exact absurd (Int32.le_trans h (Int32.not_lt.1 h2)) (by decide)
theorem lb_step_22 (x : XS) (y : MS) (a1 : Int32) (h : LInv x y) : ∃ bud, bud ≤ 49152 ∧ wpL_22 x y a1 bud (fun x9 y9 => LInv x9 y9 ∧ pot x + bud ≤ pot x9) := by
  refine ⟨0, by omega, ?_⟩
  obtain ⟨hB, hH, hP, hC⟩ := h
  obtain ⟨K, n, te, ti, wo, mk, c, pl, rd, hV, hD, hbg⟩ := BR_open hB
  have hV' := hV
  obtain ⟨⟨hK1, hK6⟩, ⟨hn1, hn5⟩, hte, hdi, hti, htz, htot, hwo, hin, hmk, hc, hpl, hrd⟩ := hV'
  have hD' := hD
  obtain ⟨d1, d2, d3, d4, d5, d6, d7, d8, d9, d10, d11⟩ := hD'
  have h64 := p64 hK6
  have hp0 := Nat.two_pow_pos K
  unfold wpL_22 wpX6_bestPart
  have A : (a1 < 0 ∨ (4 : Int32) < a1 ∨ ¬ a1 ≤ nI K) → wpM_22 y a1 0 (fun y9 => LInv x y9 ∧ pot x + 0 ≤ pot x) := by
    intro hb1
    unfold wpM_22 wpX7_bestPart
    refine hbg _ (fun g b hb hG => ?_)
    have L : ∀ z, LInv x ((y.1.1, b, g, y.1.2.2.2), (0, y.2.1.2), z) := fun z => ⟨Or.inl ⟨hb, K, n, te, ti, wo, mk, c, pl, rd, hV, hD, hG⟩, hH, hP, hC⟩
    rw [hG.1]
    refine ⟨fun _ => ⟨fun _ => ⟨L _, Nat.le_refl _⟩, fun z => z rfl⟩, fun z1 => ⟨fun _ => ⟨fun _ => ⟨L _, Nat.le_refl _⟩, fun z => z rfl⟩, fun z2 => ⟨fun z3 => ?_, fun _ => ⟨fun _ => ⟨L _, Nat.le_refl _⟩, fun z => z rfl⟩⟩⟩⟩
    rcases hb1 with q | q | q
    · exact absurd q z1
    · exact absurd q z2
    · exact absurd z3 q
  refine ⟨fun z => A (Or.inl z), fun z1 => ⟨fun z => A (Or.inr (Or.inl z)), fun z2 => ?_⟩⟩
  refine ⟨fun z3 => ?_, fun z => A (Or.inr (Or.inr (by rw [← d1]; exact z)))⟩
  rw [d1] at z3
  obtain ⟨k, hk, rfl⟩ := in4 z1 z2
  have hkK : k ≤ K := by
    rw [nI_iI, nI_iI, iI_le (by omega) (by omega)] at z3
    omega
  refine wp_settX (by omega) d1 (wp_findB hK6 hk hkK (fun w' p' fi lr' u hu hfi => ?_))
  have huB : ∀ i, u i < 2 ^ K := fun i => by
    rcases Nat.lt_or_ge i k with hi | hi
    · exact (hu.1.1 i hi).2.2.1
    · rw [hu.1.2 i hi]; exact hp0
  have hu6 : ∀ i, u i < 64 := fun i => by have := huB i; omega
  obtain ⟨uT, uI⟩ := RB_TW h64 hu.1
  obtain ⟨hh0, p0, hh, hp, e1, e2, e3, hjj⟩ := hH
  refine wp_keepX hh hp e1 e2 ?_
  refine wloop_n (fun i st => ∃ w m, st = (nI i, w, m) ∧ (∀ j, j < i → w j = nI (u j)) ∧ ∀ j, j < i → m j = 1) 4 ⟨_, _, rfl, fun j hj => absurd hj (Nat.not_lt_zero _), fun j hj => absurd hj (Nat.not_lt_zero _)⟩ ?_ ?_
  · rintro i st again hi ⟨w, m, rfl, hw, hm⟩ hag
    have st1 : ∀ s2, s2 = nI (u i) → wjX6_bestPart_81 (nI i) w m again (nI i) s2 := fun s2 hs2 => by
      subst hs2
      unfold wjX6_bestPart_81
      rw [nI_clamp (show i < 2 ^ 31 by omega), nI_1]
      refine ⟨vp_in_nI (by omega) (by omega), vp_in_nI (by omega) (by omega), hag _ ⟨_, _, rfl, fun j hj => ?_, fun j hj => ?_⟩⟩
      · by_cases e : j = i
        · subst e; rw [pk_us]
        · rw [pk_un e]; exact hw j (by omega)
      · by_cases e : j = i
        · subst e; rw [pk_us]
        · rw [pk_un e]; exact hm j (by omega)
    rw [wbX6_bestPart_50]
    refine pk_le 4 i (fun z => absurd z (by omega)) (fun _ => pk_le k i (fun z => st1 _ ?_) (fun z => ⟨vp_in_nI (by omega) (by omega), st1 _ ?_⟩))
    · rw [hu.1.2 i z]; rfl
    · rw [nI_clamp (by omega)]; exact hfi i (by omega)
  · rintro st again ⟨w, m, rfl, hw, hm⟩
    rw [wbX6_bestPart_50]
    refine pk_le 4 4 (fun _ => ?_) (fun z => absurd z (by omega))
    unfold wpM_22 wpX7_bestPart
    refine hbg _ (fun g b hb hG => ?_)
    have hRR : RR x.1 g := ⟨K, n, te, ti, wo, mk, c, pl, rd, hV, hD, hG⟩
    have hVA : VA K n te ti u (fun _ => 1) c pl rd := ⟨⟨hK1, hK6⟩, ⟨hn1, hn5⟩, hte, hdi, hti, htz, htot, huB, TW_IN uT, fun _ => Or.inl rfl, hc, hpl, hrd⟩
    refine ⟨fun z => absurd z (nI_pos (by omega)), fun _ => ⟨fun z => absurd z z2, fun _ => ⟨fun _ => ?_, fun z => absurd (by rw [hG.1]; exact z3) z⟩⟩⟩
    rcases Nat.eq_zero_or_pos k with ek | ek
    · subst ek
      refine wloop_n (fun _ st => st = ((0 : Int32), (0 : Int32), _, _, _, _, _, _)) 0 rfl (fun i s a hi => absurd hi (Nat.not_lt_zero _)) ?_
      rintro st again2 rfl
      rw [wbX7_bestPart_41]
      refine ⟨fun z => absurd z (by decide), fun _ => ⟨fun _ => ?_, fun z => absurd (by decide : nI 0 ≤ 0) z⟩⟩
      unfold wjX7_bestPart_199
      refine ⟨fun _ => ?_, fun z => absurd rfl z⟩
      refine wloop_n (fun i st => ∃ w, st = (nI i, w) ∧ ∀ j, j < i → w j = (0 : Int32)) 4 ⟨_, rfl, fun j hj => absurd hj (Nat.not_lt_zero _)⟩ ?_ ?_
      · rintro i st again3 hi ⟨w2, rfl, hw2⟩ hag3
        rw [wbX7_bestPart_206, nI_clamp (by omega), nI_1]
        refine pk_le 4 i (fun z => absurd z (by omega)) (fun _ => ⟨vp_in_nI (by omega) (by omega), hag3 _ ⟨_, rfl, fun j hj => ?_⟩⟩)
        by_cases e : j = i
        · subst e; rw [pk_us]
        · rw [pk_un e]; exact hw2 j (by omega)
      · rintro st again3 ⟨w2, rfl, hw2⟩
        rw [wbX7_bestPart_206]
        refine pk_le 4 4 (fun _ => ?_) (fun z => absurd z (by omega))
        unfold wjX7_bestPart_226
        refine wp_keepM hh e3 (fun kept' hkp => ⟨fun _ => wp_put (b := u) hu6 (fun i hi => by rw [hw2 i hi, hu.1.2 i (by omega)]; rfl) (fun g' q1 q2 q3 => ?_), fun z => absurd (by decide : nI 0 ≤ 0) z⟩)
        exact ⟨fun _ => ⟨⟨Or.inl ⟨hb, K, n, te, ti, u, fun _ => 1, c, pl, rd, hVA, ⟨d1, d2, d3, d4, d5, d6, d7, hw, fun i hi _ => hm i hi, d10, d11⟩, RG_part hn5 hG q1 q2 q3⟩, HI_keep hh hp hjj hRR hkp, hP, hC⟩, Nat.le_refl _⟩, fun z => z rfl⟩
    · refine wp_searchM hK6 ek hk hG.1 (fun fd pr' prd' br' bh' bw' tr' hj => ?_)
      rcases hj with ⟨q, _⟩ | ⟨v, hv, _, hbest, hHS, hbw⟩
      · exact absurd ⟨uT, fun i _ => huB i, uI⟩ (q u)
      · unfold wjX7_bestPart_199
        refine ⟨fun z => absurd z (nI_ne0 (by omega) (by omega)), fun _ => ?_⟩
        unfold wjX7_bestPart_226
        refine wp_keepM hh e3 (fun kept' hkp => pk_le k 0 (fun z => absurd z (by omega)) (fun _ => ?_))
        refine wp_greedy hK6 hk hv.1 (lb_of hv.1 hp0 hv.2.1) hG.1 hHS.2 hbw (fun pr2 prd2 bw2 b2 hGI heq hb2 => ?_)
        have e := part_same hK6 hk hu hv hbest hGI heq
        subst e
        refine wp_put hu6 hb2 (fun g' q1 q2 q3 => ?_)
        exact ⟨fun _ => ⟨⟨Or.inl ⟨hb, K, n, te, ti, b2, fun _ => 1, c, pl, rd, hVA, ⟨d1, d2, d3, d4, d5, d6, d7, hw, fun i hi _ => hm i hi, d10, d11⟩, RG_part hn5 hG q1 q2 q3⟩, HI_keep hh hp hjj hRR hkp, hP, hC⟩, Nat.le_refl _⟩, fun z => z rfl⟩
