/-! the steps: start, factors, undo, and calls that only ask -/
theorem RR_fresh {K : Nat} (h1 : 1 ≤ K) (h2 : K ≤ 6) {d : DS} {g : Nat → Int32} (d1 : d.1 = nI K) (d2 : d.2.1 = 1) (d3 : d.2.2.1 = 0) (d4 : d.2.2.2.1 = 0) (d5 : d.2.2.2.2.1 = 0) (d6 : d.2.2.2.2.2.1 0 = 0) (d7 : ∀ s, s < 64 → d.2.2.2.2.2.2.1 s = 0) (d8 : ∀ i, i < 4 → d.2.2.2.2.2.2.2.1 i = 0) (d9 : ∀ s, s < 64 → d.2.2.2.2.2.2.2.2.2.1 s = 0) (d10 : ∀ s, s < 64 → d.2.2.2.2.2.2.2.2.2.2 s = 0) (hg : LAY (nI K) g) : RR d g := by
  have t0 : tot (fun _ => 0) 64 = 0 := sm_zero (fun _ _ => rfl)
  have hp : 0 < 2 ^ K := Nat.two_pow_pos K
  obtain ⟨g1, g2, g3⟩ := hg
  refine ⟨K, 1, fun _ => 0, fun _ => 0, fun _ => 0, fun _ => 1, 0, fun _ => 0, fun _ => 0, ⟨⟨h1, h2⟩, ⟨by omega, by omega⟩, fun _ _ => hp, fun i j hi hj => absurd hj (by omega), fun _ => Nat.zero_le _, fun _ _ => rfl, by rw [t0]; decide, fun _ => hp, fun m _ z => absurd rfl z, fun _ => Or.inl rfl, Nat.zero_le _, fun _ => hp, fun _ => ⟨(by decide : (-1000 : Int) ≤ 0), (by decide : (0 : Int) ≤ 1000)⟩⟩, ⟨d1, d2, by rw [t0]; exact d3, d4, d5, fun i hi => ?_, d7, d8, fun _ _ z => absurd rfl z, d9, d10⟩, ⟨g1, g2, fun i hi => g3 _ (by omega) (by omega), fun i hi => g3 _ (by omega) (by omega), fun i hi => g3 _ (by omega) (by omega), fun _ _ z => absurd rfl z, g3 _ (by omega) (by omega), fun x hx => absurd hx (Nat.not_lt_zero _), fun x hx => absurd hx (Nat.not_lt_zero _)⟩⟩
  have : i = 0 := by omega
  subst this; exact d6
theorem lb_init (a : Nat) : LInv (x0 a) y0 := by
  refine ⟨Or.inr ⟨rfl, fun g' hg => RR_fresh (K := 3) (by omega) (by omega) rfl rfl rfl rfl rfl rfl (fun _ _ => rfl) (fun _ _ => rfl) (fun _ _ => rfl) (fun _ _ => rfl) hg⟩, ⟨0, 0, by omega, by omega, rfl, rfl, rfl, fun j hj => absurd hj (Nat.not_lt_zero _)⟩, Or.inl rfl, Or.inl rfl, fun j _ => rfl, Nat.zero_le _, fun z => absurd rfl z⟩
theorem lb_step_0 (x : XS) (y : MS) (a1 : Int32) (h : LInv x y) : ∃ bud, bud ≤ 49152 ∧ wpL_0 x y a1 bud (fun x9 y9 => LInv x9 y9 ∧ pot x + bud ≤ pot x9) := by
  refine ⟨0, by omega, ?_⟩
  obtain ⟨hB, ⟨h, p, hh, hp, e1, e2, e3, hj⟩, hP, hC⟩ := h
  unfold wpL_0 wpX6_factors
  refine ⟨fun z1 => ?_, fun z1 => ⟨fun z2 => ?_, fun z2 => ?_⟩⟩
  · unfold wpM_0 wpX7_factors
    exact wp_begins hB (fun g b hb hR => ⟨fun _ => ⟨fun _ => ⟨⟨Or.inl ⟨hb, hR⟩, ⟨h, p, hh, hp, e1, e2, e3, hj⟩, hP, hC⟩, Nat.le_refl _⟩, fun z => z rfl⟩, fun z => absurd z1 z⟩)
  · refine wp_keepX hh hp e1 e2 ?_
    unfold wpX1_restart wpX1_tryNothing wpX1_seeNothing wpM_0 wpX7_factors
    refine wp_begins hB (fun g b hb hR => ⟨fun z => absurd z z1, fun _ => ⟨fun _ => ?_, fun z => absurd z2 z⟩⟩)
    refine wp_keepM hh e3 (fun kept' hk => wp_lays (fun g' hg => ⟨fun _ => ?_, fun z => z rfl⟩))
    obtain ⟨K, hK, rfl⟩ := nI_of2 (x := a1) (M := 6) (n := 6) rfl (by intro z; exact z1 (Int32.lt_of_lt_of_le z (by decide))) z2
    have hK1 : 1 ≤ K := by
      rcases Nat.eq_zero_or_pos K with e | e
      · subst e; exact absurd (by decide : nI 0 < 1) z1
      · exact e
    exact ⟨⟨Or.inl ⟨hb, RR_fresh hK1 hK rfl rfl rfl rfl rfl rfl (fun _ _ => rfl) (fun _ _ => rfl) (fun _ _ => rfl) (fun _ _ => rfl) hg⟩, HI_keep hh hp hj hR hk, hP, hC⟩, Nat.le_refl _⟩
  · unfold wpM_0 wpX7_factors
    exact wp_begins hB (fun g b hb hR => ⟨fun z => absurd z z1, fun _ => ⟨fun z => absurd z z2, fun _ => ⟨fun _ => ⟨⟨Or.inl ⟨hb, hR⟩, ⟨h, p, hh, hp, e1, e2, e3, hj⟩, hP, hC⟩, Nat.le_refl _⟩, fun z => z rfl⟩⟩⟩)
/-- the state's names, the same for class and reference -/
theorem BR_open {d : DS} {g : Nat → Int32} {b : Int32} (h : BR d g b) : ∃ K n te ti wo mk c pl rd, VA K n te ti wo mk c pl rd ∧ RD d K n te ti wo mk c pl rd ∧ ∀ k : (Nat → Int32) → Int32 → Prop, (∀ g' b', b' ≠ 0 → RG g' K n te ti wo mk c pl rd → k g' b') → wpX7_begins g b k := by
  rcases h with ⟨hb, K, n, te, ti, wo, mk, c, pl, rd, hV, hD, hG⟩ | ⟨hb, h⟩
  · refine ⟨K, n, te, ti, wo, mk, c, pl, rd, hV, hD, fun k hk => ?_⟩
    unfold wpX7_begins
    exact ⟨fun z => absurd z hb, fun _ => hk g b hb hG⟩
  · obtain ⟨K, n, te, ti, wo, mk, c, pl, rd, hV, hD, hG⟩ := h (fun i => if i = 0 then 3 else if i = 1 then 1 else 0) ⟨rfl, rfl, fun i h1 _ => by dsimp only; rw [if_neg (by omega), if_neg (by omega)]⟩
    refine ⟨K, n, te, ti, wo, mk, c, pl, rd, hV, hD, fun k hk => ?_⟩
    unfold wpX7_begins
    refine ⟨fun _ => wp_lays (fun g' hg => hk g' 1 (by decide) (RG_congr hV.2.1.2 hV.2.2.2.2.2.2.2.2.2.2.1 hG (fun i hi => ?_))), fun z => absurd hb z⟩
    obtain ⟨g1, g2, g3⟩ := hg
    by_cases e : i = 0
    · subst e; rw [if_pos rfl]; exact g1
    · rw [if_neg e]
      by_cases e2 : i = 1
      · subst e2; rw [if_pos rfl]; exact g2
      · rw [if_neg e2]; exact g3 i (by omega) hi
theorem lb_step_29 (x : XS) (y : MS)  (h : LInv x y) : ∃ bud, bud ≤ 49152 ∧ wpL_29 x y  bud (fun x9 y9 => LInv x9 y9 ∧ pot x + bud ≤ pot x9) := by
  refine ⟨0, by omega, ?_⟩
  obtain ⟨hB, ⟨h, p, hh, hp, e1, e2, e3, hj⟩, hP, hC⟩ := h
  unfold wpL_29 wpX6_undo wpX3_takeBack
  rw [e1, e2, show (8 : Int32) = nI 8 from rfl, nI_add]
  refine ⟨fun z1 => ⟨⟨rfl, rfl⟩, ?_⟩, fun z1 => ?_⟩
  · unfold wpM_29 wpX7_undo
    exact wp_begins hB (fun g b hb hR => ⟨fun _ => ⟨fun _ => ⟨⟨Or.inl ⟨hb, hR⟩, ⟨h, p, hh, hp, rfl, rfl, e3, hj⟩, hP, hC⟩, Nat.le_refl _⟩, fun z => z rfl⟩, fun z => absurd (by rw [e3]; exact z1) z⟩)
  · have hp1 : 1 ≤ h := by
      rcases Nat.eq_zero_or_pos h with e | e
      · subst e; exact absurd rfl z1
      · exact e
    obtain ⟨h, rfl⟩ : ∃ h', h = h' + 1 := ⟨h - 1, by omega⟩
    rw [show p + 8 = (p + 7) + 1 by omega, nI_pred, pk_rem (by omega) (by omega) (by omega), nI_clamp (by omega), nI_pred]
    refine ⟨vp_in_nI (by omega) (by omega), ⟨rfl, rfl⟩, ?_⟩
    unfold wpM_29 wpX7_undo
    refine wp_begins hB (fun g b hb hR => ⟨fun z => absurd (by rw [← e3]; exact z) z1, fun _ => ?_⟩)
    rw [e3]
    have e0 : nI h * (202 : Int32) = nI (h * 202) := pk_mul h 202
    refine wloop_n (fun i st => ∃ f, st = (nI i, f) ∧ ∀ j, j < i → f j = y.1.2.2.2 (202 * h + j)) 202 ⟨g, rfl, fun j hj => absurd hj (Nat.not_lt_zero _)⟩ ?_ ?_
    · rintro i st again hi ⟨f, rfl, hf⟩ hag
      rw [wbX7_undo_30, nI_pred, e0, nI_add]
      refine pk_le 202 i (fun z => absurd z (by omega)) (fun _ => ⟨vp_in_nI (by omega) (by omega), vp_in_nI hi (by omega), ?_⟩)
      rw [nI_clamp (by omega), nI_clamp (by omega), nI_1]
      refine hag _ ⟨_, rfl, fun j hj => ?_⟩
      by_cases e : j = i
      · subst e; rw [Nat.mul_comm, pk_us]
      · rw [pk_un e, hf j (by omega)]
    · rintro st again ⟨f, rfl, hf⟩
      rw [wbX7_undo_30, nI_pred]
      refine pk_le 202 202 (fun _ => ⟨fun _ => ⟨⟨Or.inl ⟨hb, ?_⟩, ⟨h, (p + 7) % 8, by omega, by omega, rfl, rfl, rfl, fun j hj2 => ?_⟩, hP, hC⟩, Nat.le_refl _⟩, fun z => z rfl⟩) (fun z => absurd z (by omega))
      · have hr := hj h (by omega)
        rw [show (p + 8 - (h + 1) + h) % 8 = (p + 7) % 8 by omega] at hr
        exact RR_congr hr (fun i hi => hf i hi)
      · have hr := hj j (by omega)
        rw [show (p + 8 - (h + 1) + j) % 8 = ((p + 7) % 8 + 8 - h + j) % 8 by omega] at hr
        exact hr
