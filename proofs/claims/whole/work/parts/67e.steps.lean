/-! the steps: known, spread -/
def sx (a1 a2 a3 a4 a5 : Int32) (i : Nat) : Int := (if i = 0 then a1 else if i = 1 then a2 else if i = 2 then a3 else if i = 3 then a4 else a5).toInt
def sf (t : Nat → Int64) (a1 a2 a3 a4 a5 : Int32) : Nat → Int64 := vp_updL (vp_updL (vp_updL (vp_updL (vp_updL t 0 (a1.toInt64)) 1 (a2.toInt64)) 2 (a3.toInt64)) 3 (a4.toInt64)) 4 (a5.toInt64)
theorem toL (a : Int32) : a.toInt64 = lI a.toInt := by
  have h1 := Int32.minValue_le_toInt a
  have h2 := Int32.toInt_lt a
  have h3 := iI_l (z := a.toInt) (by simpa using Int32.le_toInt a) (by simpa using h2)
  unfold iI at h3
  rw [Int32.ofInt_toInt] at h3
  exact h3
theorem sf_sx (t : Nat → Int64) (a1 a2 a3 a4 a5 : Int32) {i : Nat} (hi : i < 5) : sf t a1 a2 a3 a4 a5 i = lI (sx a1 a2 a3 a4 a5 i) := by
  unfold sf sx
  by_cases e4 : i = 4
  · subst e4; rw [pk_uLs]; exact toL a5
  · rw [pk_uLn e4]
    by_cases e3 : i = 3
    · subst e3; rw [pk_uLs]; exact toL a4
    · rw [pk_uLn e3]
      by_cases e2 : i = 2
      · subst e2; rw [pk_uLs]; exact toL a3
      · rw [pk_uLn e2]
        by_cases e1 : i = 1
        · subst e1; rw [pk_uLs]; exact toL a2
        · rw [pk_uLn e1, show i = 0 by omega, pk_uLs]; exact toL a1
theorem sx_abs (a1 a2 a3 a4 a5 : Int32) (i : Nat) : (sx a1 a2 a3 a4 a5 i).natAbs < 9223372036854775808 := by
  unfold sx
  generalize (if i = 0 then a1 else if i = 1 then a2 else if i = 2 then a3 else if i = 3 then a4 else a5) = a
  have h1 := Int32.le_toInt a
  have h2 := Int32.toInt_lt a
  omega
def sOK (n : Nat) (a1 a2 a3 a4 a5 : Int32) : Prop := ∀ i, i < n → -9 ≤ sx a1 a2 a3 a4 a5 i ∧ sx a1 a2 a3 a4 a5 i ≤ 9
theorem sOK_abs {n : Nat} {a1 a2 a3 a4 a5 : Int32} (h : sOK n a1 a2 a3 a4 a5) : ∀ i, i < n → (sx a1 a2 a3 a4 a5 i).natAbs ≤ 9 := fun i hi => by have := h i hi; omega
theorem wp_takeX {n : Nat} (hn : n ≤ 5) {tc : Int32} (htc : tc = nI n) (t : Nat → Int64) (a1 a2 a3 a4 a5 : Int32) {k : Int32 → (Nat → Int64) → Prop} (h1 : sOK n a1 a2 a3 a4 a5 → k 1 (sf t a1 a2 a3 a4 a5)) (h0 : ¬ sOK n a1 a2 a3 a4 a5 → k 0 (sf t a1 a2 a3 a4 a5)) : wpX6_takeSum tc t a1 a2 a3 a4 a5 k := by
  subst htc
  unfold wpX6_takeSum
  refine wloop_n (fun i st => st = nI i ∧ ∀ j, j < i → -9 ≤ sx a1 a2 a3 a4 a5 j ∧ sx a1 a2 a3 a4 a5 j ≤ 9) n ⟨rfl, fun j hj => absurd hj (Nat.not_lt_zero _)⟩ ?_ ?_
  · rintro i st again hi ⟨rfl, hf⟩ hag
    rw [wbX6_takeSum_45]
    change ((nI n ≤ nI i) → _) ∧ (¬ (nI n ≤ nI i) → (vp_in (nI i) 5 ∧ ((sf t a1 a2 a3 a4 a5 ((nI i).toNatClampNeg) < -9 → k 0 (sf t a1 a2 a3 a4 a5)) ∧ (¬ sf t a1 a2 a3 a4 a5 ((nI i).toNatClampNeg) < -9 → (vp_in (nI i) 5 ∧ ((sf t a1 a2 a3 a4 a5 ((nI i).toNatClampNeg) ≤ 9 → _) ∧ (¬ sf t a1 a2 a3 a4 a5 ((nI i).toNatClampNeg) ≤ 9 → k 0 (sf t a1 a2 a3 a4 a5))))))))
    have b := sx_abs a1 a2 a3 a4 a5 i
    rw [nI_clamp (by omega), sf_sx t a1 a2 a3 a4 a5 (by omega), show (-9 : Int64) = lI (-9) from rfl, show (9 : Int64) = lI 9 from rfl, lI_lt b (by decide), lI_le b (by decide)]
    refine pk_le n i (fun z => absurd z (by omega)) (fun _ => ⟨vp_in_nI (by omega) (by omega), fun z => h0 (fun hs => ?_), fun z1 => ⟨vp_in_nI (by omega) (by omega), fun z2 => ?_, fun z => h0 (fun hs => ?_)⟩⟩)
    · have := hs i hi; omega
    · rw [nI_1]
      refine hag _ ⟨rfl, fun j hj => ?_⟩
      by_cases e : j = i
      · subst e; omega
      · exact hf j (by omega)
    · have := hs i hi; omega
  · rintro st again ⟨rfl, hf⟩
    rw [wbX6_takeSum_45]
    exact pk_le n n (fun _ => h1 hf) (fun z => absurd z (by omega))
theorem wp_takeM {n : Nat} (hn : n ≤ 5) {g : Nat → Int32} (htc : g 1 = nI n) (t : Nat → Int64) (a1 a2 a3 a4 a5 : Int32) {k : Int32 → (Nat → Int64) → Prop} (h1 : sOK n a1 a2 a3 a4 a5 → k 1 (sf t a1 a2 a3 a4 a5)) (h0 : ¬ sOK n a1 a2 a3 a4 a5 → k 0 (sf t a1 a2 a3 a4 a5)) : wpX7_takesSum g t a1 a2 a3 a4 a5 k := by
  have h : wpX6_takeSum (g 1) t a1 a2 a3 a4 a5 k := wp_takeX hn htc t a1 a2 a3 a4 a5 h1 h0
  exact h
/-- what the lines that are found are -/
theorem gln_hall {n : Nat} {T : Nat → Nat → Int} (hT : psd n T) : (gln T n).1 = n → ∀ i, i < n → ∃ a, a < (gln T n).1 ∧ (gln T n).2 a = i := fun e i hi => ⟨i, by omega, gln_all hT (Nat.le_refl _) e i hi⟩
theorem wp_frac (a : Int32) {k : Int32 → Prop} (h1 : a = 0 ∨ a = 1 → k 1) (h0 : a ≠ 0 → a ≠ 1 → k 0) : wpX6_isFractionPart a k := by
  unfold wpX6_isFractionPart
  exact ⟨fun z => h1 (Or.inl z), fun z => ⟨fun z2 => h1 (Or.inr z2), fun z2 => h0 z z2⟩⟩
theorem frac01 {a : Int32} (h1 : ¬ a < 0) (h2 : ¬ (1 : Int32) < a) : a = 0 ∨ a = 1 := by
  obtain ⟨j, hj, rfl⟩ := nI_of2 (x := a) (M := 1) (n := 1) rfl h1 (Int32.not_lt.1 h2)
  have : j = 0 ∨ j = 1 := by omega
  rcases this with rfl | rfl
  · exact Or.inl rfl
  · exact Or.inr rfl
theorem frac_n {a : Int32} (h : a = 0 ∨ a = 1) : ¬ a < 0 ∧ ¬ (1 : Int32) < a := by
  rcases h with rfl | rfl <;> exact ⟨by decide, by decide⟩
theorem lb_step_9 (x : XS) (y : MS) (a1 : Int32) (a2 : Int32) (a3 : Int32) (a4 : Int32) (a5 : Int32) (h : LInv x y) : ∃ bud, bud ≤ 49152 ∧ wpL_9 x y a1 a2 a3 a4 a5 bud (fun x9 y9 => LInv x9 y9 ∧ pot x + bud ≤ pot x9) := by
  refine ⟨0, by omega, ?_⟩
  obtain ⟨hB, hH, hP, hC⟩ := h
  obtain ⟨K, n, te, ti, wo, mk, c, pl, rd, hV, hD, hbg⟩ := BR_open hB
  obtain ⟨hps, hbd⟩ := plan_psd hV
  have hV' := hV
  obtain ⟨⟨hK1, hK6⟩, ⟨hn1, hn5⟩, hte, hdi, hti, htz, htot, hwo, hin, hmk, hc, hpl, hrd⟩ := hV'
  have hD' := hD
  obtain ⟨d1, d2, d3, d4, d5, d6, d7, d8, d9, d10, d11⟩ := hD'
  have h64 := p64 hK6
  unfold wpL_9 wpX6_known
  refine wp_takeX hn5 d2 _ a1 a2 a3 a4 a5 (fun ok => ⟨fun z => absurd z (by decide), fun _ => ?_⟩) (fun no => ⟨fun _ => ?_, fun z => absurd rfl z⟩)
  · refine wp_sweepPlan (by omega) hn5 (fun i hi => by have := hte i hi; omega) (fun s _ => by have := hti s; omega) hps hbd d1 d2 d6 d7 (fun f sw' h1 h2 => ?_)
    obtain ⟨g1, g2, g3, g4⟩ := gln_ok hps n (Nat.le_refl _)
    refine wp_reaches hn5 hps.1 hbd (gln_inj hps (Nat.le_refl _)) g2 g1 (gln_hall hps) rfl rfl h1 h2 (fun i hi => sf_sx _ a1 a2 a3 a4 a5 (by omega)) (sOK_abs ok) (fun hall => ⟨fun z => absurd z (by decide), fun _ => ?_⟩) (fun j hj hne => ⟨fun _ => ?_, fun z => absurd rfl z⟩)
    · unfold wpM_9 wpX7_known
      refine hbg _ (fun g b hb hG => wp_takeM hn5 hG.2.1 _ a1 a2 a3 a4 a5 (fun _ => ⟨fun z => absurd z (by decide), fun _ => ?_⟩) (fun no => absurd ok no))
      refine wp_tabP (by omega) hn5 (fun i hi => by have := hte i hi; omega) (fun s _ => by have := hti s; omega) hG.1 hG.2.1 hG.2.2.1 hG.2.2.2.1 (fun f hf => ?_)
      exact wp_isKnown hn5 hbd hG.2.1 (fun i j hi hj => hf i j (by omega) (by omega)) (fun i hi => sf_sx _ a1 a2 a3 a4 a5 (by omega)) (sOK_abs ok) (fun _ _ _ _ _ _ _ => ⟨fun z => absurd z (by decide), fun _ => ⟨fun _ => ⟨⟨Or.inl ⟨hb, K, n, te, ti, wo, mk, c, pl, rd, hV, hD, hG⟩, hH, hP, hC⟩, Nat.le_refl _⟩, fun z => z rfl⟩⟩) (fun j hj hne => absurd (hall j hj) hne)
    · unfold wpM_9 wpX7_known
      refine hbg _ (fun g b hb hG => wp_takeM hn5 hG.2.1 _ a1 a2 a3 a4 a5 (fun _ => ⟨fun z => absurd z (by decide), fun _ => ?_⟩) (fun no => absurd ok no))
      refine wp_tabP (by omega) hn5 (fun i hi => by have := hte i hi; omega) (fun s _ => by have := hti s; omega) hG.1 hG.2.1 hG.2.2.1 hG.2.2.2.1 (fun f hf => ?_)
      exact wp_isKnown hn5 hbd hG.2.1 (fun i j hi hj => hf i j (by omega) (by omega)) (fun i hi => sf_sx _ a1 a2 a3 a4 a5 (by omega)) (sOK_abs ok) (fun hall => absurd (hall j hj) hne) (fun _ _ _ _ _ _ _ _ _ => ⟨fun _ => ⟨fun _ => ⟨⟨Or.inl ⟨hb, K, n, te, ti, wo, mk, c, pl, rd, hV, hD, hG⟩, hH, hP, hC⟩, Nat.le_refl _⟩, fun z => z rfl⟩, fun z => absurd rfl z⟩)
  · unfold wpM_9 wpX7_known
    exact hbg _ (fun g b hb hG => wp_takeM hn5 hG.2.1 _ a1 a2 a3 a4 a5 (fun ok => absurd ok no) (fun _ => ⟨fun _ => ⟨fun _ => ⟨⟨Or.inl ⟨hb, K, n, te, ti, wo, mk, c, pl, rd, hV, hD, hG⟩, hH, hP, hC⟩, Nat.le_refl _⟩, fun z => z rfl⟩, fun z => absurd rfl z⟩))
theorem lb_step_10 (x : XS) (y : MS) (a1 : Int32) (a2 : Int32) (a3 : Int32) (a4 : Int32) (a5 : Int32) (a6 : Int32) (h : LInv x y) : ∃ bud, bud ≤ 49152 ∧ wpL_10 x y a1 a2 a3 a4 a5 a6 bud (fun x9 y9 => LInv x9 y9 ∧ pot x + bud ≤ pot x9) := by
  refine ⟨0, by omega, ?_⟩
  obtain ⟨hB, hH, hP, hC⟩ := h
  obtain ⟨K, n, te, ti, wo, mk, c, pl, rd, hV, hD, hbg⟩ := BR_open hB
  obtain ⟨hps, hbd⟩ := plan_psd hV
  have hV' := hV
  obtain ⟨⟨hK1, hK6⟩, ⟨hn1, hn5⟩, hte, hdi, hti, htz, htot, hwo, hin, hmk, hc, hpl, hrd⟩ := hV'
  have hD' := hD
  obtain ⟨d1, d2, d3, d4, d5, d6, d7, d8, d9, d10, d11⟩ := hD'
  have h64 := p64 hK6
  unfold wpL_10 wpX6_spread
  refine wp_frac a6 (fun f01 => ⟨fun z => absurd z (by decide), fun _ => ?_⟩) (fun n0 n1 => ⟨fun _ => ?_, fun z => absurd rfl z⟩)
  · obtain ⟨w0, w1⟩ := frac_n f01
    refine wp_takeX hn5 d2 _ a1 a2 a3 a4 a5 (fun ok => ⟨fun z => absurd z (by decide), fun _ => ?_⟩) (fun no => ⟨fun _ => ?_, fun z => absurd rfl z⟩)
    · refine wp_sweepPlan (by omega) hn5 (fun i hi => by have := hte i hi; omega) (fun s _ => by have := hti s; omega) hps hbd d1 d2 d6 d7 (fun f sw' h1 h2 => ?_)
      obtain ⟨g1, g2, g3, g4⟩ := gln_ok hps n (Nat.le_refl _)
      have b5 := DDb (ln := (gln (tbp n te id ti (2 ^ K)) n).2) (show (gln (tbp n te id ti (2 ^ K)) n).1 ≤ 5 by omega) hbd
      refine wp_reaches hn5 hps.1 hbd (gln_inj hps (Nat.le_refl _)) g2 g1 (gln_hall hps) rfl rfl h1 h2 (fun i hi => sf_sx _ a1 a2 a3 a4 a5 (by omega)) (sOK_abs ok) (fun hall => ⟨fun z => absurd z (by decide), fun _ => ?_⟩) (fun j hj hne => ⟨fun _ => ?_, fun z => absurd rfl z⟩)
      · rw [measure_same]
        refine wp_measure hn5 hps.1 (gln_inj hps (Nat.le_refl _)) g2 rfl h1 h2 (fun i hi => sf_sx _ a1 a2 a3 a4 a5 (by omega)) (fun i hi => sf_sx _ a1 a2 a3 a4 a5 (by omega)) ?_
        refine wp_part g4 (by omega) ?_
        unfold wpM_10 wpX7_spread
        refine hbg _ (fun g b hb hG => ⟨fun z => absurd z w0, fun _ => ⟨fun z => absurd z w1, fun _ => wp_takeM hn5 hG.2.1 _ a1 a2 a3 a4 a5 (fun _ => ⟨fun z => absurd z (by decide), fun _ => ?_⟩) (fun no => absurd ok no)⟩⟩)
        refine wp_tabP (by omega) hn5 (fun i hi => by have := hte i hi; omega) (fun s _ => by have := hti s; omega) hG.1 hG.2.1 hG.2.2.1 hG.2.2.2.1 (fun f hf => ?_)
        refine wp_isKnown hn5 hbd hG.2.1 (fun i j hi hj => hf i j (by omega) (by omega)) (fun i hi => sf_sx _ a1 a2 a3 a4 a5 (by omega)) (sOK_abs ok) (fun _ _ _ ln' _ _ hln => ⟨fun z => absurd z (by decide), fun _ => ?_⟩) (fun j hj hne => absurd (hall j hj) hne)
        rw [given_same]
        refine wp_given hn5 (by omega) g2 (fun i j hi hj => hf i j (by omega) (by omega)) hln (fun i hi => sf_sx _ a1 a2 a3 a4 a5 (by omega)) (fun i hi => sf_sx _ a1 a2 a3 a4 a5 (by omega)) (fun _ _ => ?_)
        exact wp_share g4 (by omega) ⟨fun _ => ⟨⟨Or.inl ⟨hb, K, n, te, ti, wo, mk, c, pl, rd, hV, hD, hG⟩, hH, hP, hC⟩, Nat.le_refl _⟩, fun z => z rfl⟩
      · unfold wpM_10 wpX7_spread
        refine hbg _ (fun g b hb hG => ⟨fun z => absurd z w0, fun _ => ⟨fun z => absurd z w1, fun _ => wp_takeM hn5 hG.2.1 _ a1 a2 a3 a4 a5 (fun _ => ⟨fun z => absurd z (by decide), fun _ => ?_⟩) (fun no => absurd ok no)⟩⟩)
        refine wp_tabP (by omega) hn5 (fun i hi => by have := hte i hi; omega) (fun s _ => by have := hti s; omega) hG.1 hG.2.1 hG.2.2.1 hG.2.2.2.1 (fun f hf => ?_)
        exact wp_isKnown hn5 hbd hG.2.1 (fun i j hi hj => hf i j (by omega) (by omega)) (fun i hi => sf_sx _ a1 a2 a3 a4 a5 (by omega)) (sOK_abs ok) (fun hall => absurd (hall j hj) hne) (fun _ _ _ _ _ _ _ _ _ => ⟨fun _ => ⟨fun _ => ⟨⟨Or.inl ⟨hb, K, n, te, ti, wo, mk, c, pl, rd, hV, hD, hG⟩, hH, hP, hC⟩, Nat.le_refl _⟩, fun z => z rfl⟩, fun z => absurd rfl z⟩)
    · unfold wpM_10 wpX7_spread
      exact hbg _ (fun g b hb hG => ⟨fun z => absurd z w0, fun _ => ⟨fun z => absurd z w1, fun _ => wp_takeM hn5 hG.2.1 _ a1 a2 a3 a4 a5 (fun ok => absurd ok no) (fun _ => ⟨fun _ => ⟨fun _ => ⟨⟨Or.inl ⟨hb, K, n, te, ti, wo, mk, c, pl, rd, hV, hD, hG⟩, hH, hP, hC⟩, Nat.le_refl _⟩, fun z => z rfl⟩, fun z => absurd rfl z⟩)⟩⟩)
  · unfold wpM_10 wpX7_spread
    refine hbg _ (fun g b hb hG => ?_)
    have L : LInv x ((y.1.1, b, g, y.1.2.2.2), (0, y.2.1.2), y.2.2) := ⟨Or.inl ⟨hb, K, n, te, ti, wo, mk, c, pl, rd, hV, hD, hG⟩, hH, hP, hC⟩
    refine ⟨fun _ => ⟨fun _ => ⟨L, Nat.le_refl _⟩, fun z => z rfl⟩, fun z1 => ⟨fun _ => ⟨fun _ => ⟨L, Nat.le_refl _⟩, fun z => z rfl⟩, fun z2 => ?_⟩⟩
    rcases frac01 z1 z2 with e | e
    · exact absurd e n0
    · exact absurd e n1
