/-- both sides' PLANS are one -/
theorem PR_JM {S N : Nat} {W : (Nat → Nat) → Int} {bc gs : Int32} {gr : Int64} {f fi : Nat → Int32} (hw : wy S N ≤ 20000) (hp : PR S N W bc f) (hj : JM S W (vpl S N) gr gs fi) : bc = gs ∧ (wy S N ≠ 0 → ∃ u, BP S N W u ∧ (∀ s, s < 64 → f s = nI (u s)) ∧ (∀ s, s < 64 → fi s = nI (u s))) := by
  by_cases e : wy S N = 0
  · have b := hp.2.1 e
    rcases hj with ⟨h1, h2, h3⟩ | ⟨u, hu, h2⟩
    · exact ⟨b.trans h3.symm, fun z => absurd e z⟩
    · exact absurd (vpl_wy hu) (by omega)
  · obtain ⟨u, hu, hb, hc1, hc2, hf⟩ := hp.2.2 (by omega) hw
    rcases hj with ⟨h1, h2⟩ | ⟨v, hv, h2, hmx, hlx, hfi, hgs⟩
    · exact absurd hu.1 (h1 u)
    · have e2 : v = u := BP_uniq (W := W) ⟨hv, hmx, hlx⟩ hu
      subst e2
      exact ⟨hb.trans hgs.symm, fun _ => ⟨v, hu, hf, hfi⟩⟩
theorem few_bad {g ways : Nat → Int32} {a1 : Int32} (ha : a1 < 0 ∨ ¬ a1 ≤ 40) {k : Int32 → (Nat → Int32) → Prop} (h : k 0 ways) : wpX7_areFew g ways a1 k := by
  unfold wpX7_areFew
  exact ⟨fun _ => h, fun z1 => ⟨fun z2 => ha.elim (fun z => absurd z z1) (fun z => absurd z2 z), fun _ => h⟩⟩
theorem in40 {a1 : Int32} (h1 : ¬ a1 < 0) (h2 : a1 ≤ 40) : ∃ N, N ≤ 40 ∧ a1 = nI N := by
  rcases has_cases a1 (n := 41) (by omega) with ⟨j, hj, e⟩ | h | h
  · exact ⟨j, by omega, e⟩
  · exact absurd h h1
  · exact absurd (Int32.le_trans h h2) (by decide)
theorem lb_step_14 (x : XS) (y : MS) (a1 : Int32) (h : LInv x y) : ∃ bud, bud ≤ 49152 ∧ wpL_14 x y a1 bud (fun x9 y9 => LInv x9 y9 ∧ pot x + bud ≤ pot x9) := by
  refine ⟨0, by omega, ?_⟩
  obtain ⟨hB, hH, hP, hC⟩ := h
  obtain ⟨K, n, te, ti, wo, mk, c, pl, rd, hV, hD, hbg⟩ := BR_open hB
  have hV' := hV
  obtain ⟨⟨hK1, hK6⟩, ⟨hn1, hn5⟩, hte, hdi, hti, htz, htot, hwo, hin, hmk, hc, hpl, hrd⟩ := hV'
  have hD' := hD
  obtain ⟨d1, d2, d3, d4, d5, d6, d7, d8, d9, d10, d11⟩ := hD'
  have h64 := p64 hK6
  have hte6 : ∀ i, i < n → te i < 64 := fun i hi => by have := hte i hi; omega
  unfold wpL_14 wpX6_bests
  have A : (a1 < 0 ∨ ¬ a1 ≤ 40) → wpM_14 y a1 (-1) (fun y9 => LInv x y9 ∧ pot x + 0 ≤ pot x) := by
    intro hb1
    unfold wpM_14 wpX7_bests
    refine hbg _ (fun g b hb hG => few_bad hb1 ⟨fun _ => ⟨fun _ => ⟨⟨Or.inl ⟨hb, K, n, te, ti, wo, mk, c, pl, rd, hV, hD, hG⟩, hH, hP, hC⟩, Nat.le_refl _⟩, fun z => z rfl⟩, fun z => absurd rfl z⟩)
  refine ⟨fun z => A (Or.inl z), fun z1 => ⟨fun z2 => ?_, fun z => A (Or.inr z)⟩⟩
  obtain ⟨N, hN, rfl⟩ := in40 z1 z2
  refine wp_findP (te := te) hK1 hK6 hn1 hn5 hte x.2.2.2.2.1 hP d1 d2 d6 hN (fun c0 c1 c2 c3 c4 c5 c6 c7 c8 c9 c10 c11 c12 c13 c14 c15 hI hR => ?_)
  unfold wpM_14 wpX7_bests
  refine hbg _ (fun g b hb hG => wp_few hK6 hG.1 hN (fun wa hw _ => ⟨fun z => absurd z (by decide), fun _ => ?_⟩) (fun wa hw => ⟨fun _ => ⟨fun _ => ⟨⟨Or.inl ⟨hb, K, n, te, ti, wo, mk, c, pl, rd, hV, hD, hG⟩, hH, hI _ 0 0 _ 0 0 _ _ _ _, hC⟩, Nat.le_refl _⟩, fun z => z (hR.1 hw)⟩, fun z => absurd rfl z⟩))
  refine wp_goes (te := te) hK1 hK6 hn1 hn5 hN hte6 hG.1 hG.2.1 hG.2.2.1 (fun g9 tb w p as fi' gr' gs' hq hj => ?_)
  have e := (PR_JM hw hR hj).1
  exact ⟨fun _ => ⟨⟨Or.inl ⟨hb, K, n, te, ti, wo, mk, c, pl, rd, hV, hD, RG_congr hn5 hc hG hq⟩, hH, hI _ 0 0 _ 0 0 _ _ _ _, hC⟩, Nat.le_refl _⟩, fun z => absurd e z⟩
theorem wp_takePlan {ti u : Nat → Nat} {tc : Int32} {ts p : Nat → Int32} (htc : tc = iI (tot ti 64)) (ht : ∀ s, s < 64 → ts s = nI (ti s)) (hp : ∀ s, s < 64 → p s = nI (u s)) {k : Int32 → (Nat → Int32) → Prop} (h : ∀ f, (∀ s, s < 64 → f s = nI (u s)) → k (iI (tot u 64)) f) : wpX1_takePlan tc ts p k := by
  unfold wpX1_takePlan
  refine wloop_n (fun i st => ∃ f, st = (nI i, iI (tot (fun s => if s < i then u s else ti s) 64), f) ∧ ∀ s, s < 64 → f s = nI (if s < i then u s else ti s)) 64 ⟨ts, ?_, fun s hs => by rw [if_neg (by omega)]; exact ht s hs⟩ ?_ ?_
  · rw [htc, tot_congr (f := fun s => if s < 0 then u s else ti s) (g := ti) (fun s _ => if_neg (Nat.not_lt_zero s))]; rfl
  · rintro i st again hi ⟨f, rfl, hf⟩ hag
    rw [wbX1_takePlan_2]
    refine pk_le 64 i (fun z => absurd z (by omega)) (fun _ => ⟨vp_in_nI (by omega) (by omega), ?_⟩)
    unfold wpX1_tryTimes
    rw [nI_clamp (by omega), hp i hi, hf i hi, if_neg (Nat.lt_irrefl i), nI_1]
    have e1 : tot (fun s => if s < i + 1 then u s else ti s) 64 = tot (fun s => if s < i then u s else ti s) 64 - ti i + u i := by
      have e2 := tot_upd (fun s => if s < i then u s else ti s) (u i) (j := i) (n := 64) hi
      rw [if_neg (Nat.lt_irrefl i)] at e2
      rw [← e2]
      refine tot_congr (fun s _ => ?_)
      by_cases e : s = i
      · subst e; rw [if_pos (by omega), if_pos rfl]
      · rw [if_neg e]
        by_cases e3 : s < i
        · rw [if_pos e3, if_pos (by omega)]
        · rw [if_neg e3, if_neg (by omega)]
    refine ⟨vp_in_nI (by omega) (by omega), vp_in_nI (by omega) (by omega), hag _ ⟨upd f i (nI (u i)), ?_, fun s hs => ?_⟩⟩
    · rw [e1, nI_iI (u i), nI_iI (ti i), iI_sub, iI_add]
      rw [show tot (fun s => if s < i then u s else ti s) 64 + ((u i : Int) - (ti i : Int)) = tot (fun s => if s < i then u s else ti s) 64 - ti i + u i by omega]
    · by_cases e : s = i
      · subst e; rw [pk_us, if_pos (by omega)]
      · rw [pk_un e, hf s hs]
        by_cases e3 : s < i
        · rw [if_pos e3, if_pos (by omega)]
        · rw [if_neg e3, if_neg (by omega)]
  · rintro st again ⟨f, rfl, hf⟩
    rw [wbX1_takePlan_2]
    refine pk_le 64 64 (fun _ => ?_) (fun z => absurd z (by omega))
    rw [tot_congr (f := fun s => if s < 64 then u s else ti s) (g := u) (fun s hs => if_pos hs)]
    exact h f (fun s hs => by rw [hf s hs, if_pos hs])
theorem lb_step_13 (x : XS) (y : MS) (a1 : Int32) (h : LInv x y) : ∃ bud, bud ≤ 49152 ∧ wpL_13 x y a1 bud (fun x9 y9 => LInv x9 y9 ∧ pot x + bud ≤ pot x9) := by
  refine ⟨0, by omega, ?_⟩
  obtain ⟨hB, hH, hP, hC⟩ := h
  obtain ⟨K, n, te, ti, wo, mk, c, pl, rd, hV, hD, hbg⟩ := BR_open hB
  have hV' := hV
  obtain ⟨⟨hK1, hK6⟩, ⟨hn1, hn5⟩, hte, hdi, hti, htz, htot, hwo, hin, hmk, hc, hpl, hrd⟩ := hV'
  have hD' := hD
  obtain ⟨d1, d2, d3, d4, d5, d6, d7, d8, d9, d10, d11⟩ := hD'
  have h64 := p64 hK6
  have hte6 : ∀ i, i < n → te i < 64 := fun i hi => by have := hte i hi; omega
  unfold wpL_13 wpX6_best
  have A : (a1 < 0 ∨ ¬ a1 ≤ 40) → wpM_13 y a1 0 (fun y9 => LInv x y9 ∧ pot x + 0 ≤ pot x) := by
    intro hb1
    unfold wpM_13 wpX7_best
    refine hbg _ (fun g b hb hG => few_bad hb1 ⟨fun _ => ⟨fun _ => ⟨⟨Or.inl ⟨hb, K, n, te, ti, wo, mk, c, pl, rd, hV, hD, hG⟩, hH, hP, hC⟩, Nat.le_refl _⟩, fun z => z rfl⟩, fun z => absurd rfl z⟩)
  refine ⟨fun z => A (Or.inl z), fun z1 => ⟨fun z2 => ?_, fun z => A (Or.inr z)⟩⟩
  obtain ⟨N, hN, rfl⟩ := in40 z1 z2
  refine wp_findP (te := te) hK1 hK6 hn1 hn5 hte x.2.2.2.2.1 hP d1 d2 d6 hN (fun c0 c1 c2 c3 c4 c5 c6 c7 c8 c9 c10 c11 c12 c13 c14 c15 hI hR => ?_)
  by_cases hw : wy (2 ^ K) N ≤ 20000
  · by_cases hw0 : wy (2 ^ K) N = 0
    · refine ⟨fun z => ?_, fun _ => ?_⟩
      · rw [hR.2.1 hw0] at z; exact absurd z (by decide)
      · unfold wpM_13 wpX7_best
        refine hbg _ (fun g b hb hG => wp_few hK6 hG.1 hN (fun wa _ hwa => ⟨fun z => absurd z (by decide), fun _ => ⟨vp_in_nI (by omega) (by omega), ?_⟩⟩) (fun wa hw2 => absurd hw2 (by omega)))
        rw [nI_clamp (by omega), hwa, hw0]
        exact ⟨fun _ => ⟨fun _ => ⟨⟨Or.inl ⟨hb, K, n, te, ti, wo, mk, c, pl, rd, hV, hD, hG⟩, hH, hI _ 0 0 _ 0 0 _ _ _ _, hC⟩, Nat.le_refl _⟩, fun z => z rfl⟩, fun z => absurd rfl z⟩
    · refine ⟨fun _ => ?_, fun z => ?_⟩
      · obtain ⟨hh0, p0, hh, hp, e1, e2, e3, hjj⟩ := hH
        obtain ⟨u, hu, hb0, hc1, hc2, hfu⟩ := hR.2.2 (by omega) hw
        refine wp_keepX hh hp e1 e2 (wp_takePlan d3 d7 hfu (fun f hf => ?_))
        unfold wpM_13 wpX7_best
        refine hbg _ (fun g b hb hG => wp_few hK6 hG.1 hN (fun wa _ hwa => ⟨fun z => absurd z (by decide), fun _ => ⟨vp_in_nI (by omega) (by omega), ?_⟩⟩) (fun wa hw2 => absurd hw2 (by omega)))
        have hRR : RR x.1 g := ⟨K, n, te, ti, wo, mk, c, pl, rd, hV, hD, hG⟩
        rw [nI_clamp (by omega), hwa]
        refine ⟨fun z => absurd z (fun z => hw0 ((nI_eq (b := 0) (by omega) (by omega)).1 z)), fun _ => wp_keepM hh e3 (fun kept' hk => ?_)⟩
        refine wp_goes (te := te) hK1 hK6 hn1 hn5 hN hte6 hG.1 hG.2.1 hG.2.2.1 (fun g9 tb w p as fi' gr' gs' hq hj => ?_)
        obtain ⟨v, hv, hv1, hv2⟩ := (PR_JM hw hR hj).2 hw0
        have ev : v = u := BP_uniq hv hu
        subst ev
        have hG9 := RG_congr hn5 hc hG hq
        obtain ⟨g1, g2, g3, g4, g5, g6, g7, g8, g9'⟩ := hG9
        refine wloop_n (fun i st => ∃ f, st = (nI i, f) ∧ (∀ s, s < i → f (7 + s) = nI (v s)) ∧ (∀ q, q < 7 ∨ 71 ≤ q → f q = g9 q)) 64 ⟨g9, rfl, fun s hs => absurd hs (Nat.not_lt_zero _), fun _ _ => rfl⟩ ?_ ?_
        · rintro i st again hi ⟨f', rfl, hf1, hf2⟩ hag
          rw [wbX7_best_39]
          refine pk_le 64 i (fun z => absurd z (by omega)) (fun _ => ?_)
          rw [show (7 : Int32) + nI i = nI (7 + i) from nI_add 7 i, nI_clamp (show i < 2 ^ 31 by omega), nI_clamp (show 7 + i < 2 ^ 31 by omega), hv2 i hi, nI_1]
          refine ⟨vp_in_nI (by omega) (by omega), vp_in_nI (by omega) (by omega), hag _ ⟨_, rfl, fun s hs => ?_, fun q hq2 => ?_⟩⟩
          · by_cases e : s = i
            · subst e; rw [pk_us]
            · rw [pk_un (by omega)]; exact hf1 s (by omega)
          · rw [pk_un (by omega)]; exact hf2 q hq2
        · rintro st again ⟨f', rfl, hf1, hf2⟩
          rw [wbX7_best_39]
          refine pk_le 64 64 (fun _ => ?_) (fun z => absurd z (by omega))
          have hRG : RG f' K n te v wo mk c pl rd := by
            refine ⟨?_, ?_, fun i hi => ?_, hf1, fun i hi => ?_, fun i hi h0 => ?_, ?_, fun i hi => ?_, fun i hi => ?_⟩
            · rw [hf2 _ (by omega), g1]
            · rw [hf2 _ (by omega), g2]
            · rw [hf2 _ (by omega), g3 i hi]
            · rw [hf2 _ (by omega), g5 i hi]
            · rw [hf2 _ (by omega), g6 i hi h0]
            · rw [hf2 _ (by omega), g7]
            · rw [hf2 _ (by omega), g8 i hi]
            · rw [hf2 _ (by omega), g9' i hi]
          exact ⟨fun _ => ⟨⟨Or.inl ⟨hb, K, n, te, v, wo, mk, c, pl, rd, ⟨⟨hK1, hK6⟩, ⟨hn1, hn5⟩, hte, hdi, hv.1.1, hv.1.2.1, by rw [tot_z hv.1.2.1 h64, hv.1.2.2]; omega, hwo, hin, hmk, hc, hpl, hrd⟩, ⟨d1, d2, rfl, d4, d5, d6, hf, d8, d9, d10, d11⟩, hRG⟩, HI_keep hh hp hjj hRR hk, hI _ 0 0 _ 0 0 _ _ _ _, hC⟩, Nat.le_refl _⟩, fun z => z rfl⟩
      · obtain ⟨u, hu, hb0, hc1, hc2, hfu⟩ := hR.2.2 (by omega) hw
        rw [hb0, show (1 : Int32) = iI 1 from rfl, iI_le (by decide) (by omega)] at z
        exact absurd hc1 z
  · refine ⟨fun z => ?_, fun _ => ?_⟩
    · rw [hR.1 (by omega)] at z; exact absurd z (by decide)
    · unfold wpM_13 wpX7_best
      exact hbg _ (fun g b hb hG => wp_few hK6 hG.1 hN (fun wa hw2 _ => absurd hw2 hw) (fun wa hw2 => ⟨fun _ => ⟨fun _ => ⟨⟨Or.inl ⟨hb, K, n, te, ti, wo, mk, c, pl, rd, hV, hD, hG⟩, hH, hI _ 0 0 _ 0 0 _ _ _ _, hC⟩, Nat.le_refl _⟩, fun z => z rfl⟩, fun z => absurd rfl z⟩))
