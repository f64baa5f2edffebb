/-! the reference: what is known, what is given -/
theorem UX_abs {n : Nat} {T : Nat → Nat → Int} {ln : Nat → Nat} {r : Nat} (hr : r ≤ 5) (hB : ∀ i j, (T i j).natAbs ≤ 60) {X : Nat → Int} (hl : ∀ a, a < r → ln a < n) (hX : ∀ i, i < n → (X i).natAbs ≤ 9) {k : Nat} (hk : k < n) : (UU T ln r X k).natAbs ≤ 10000000000000 := by
  have b1 : (X k * DD T ln r).natAbs ≤ 9 * 100000000000 := by
    rw [Int.natAbs_mul]; exact Nat.mul_le_mul (hX k hk) (DDb hr hB)
  have b2 : ∀ a, a < r → (SS T ln r X a).natAbs ≤ r * (311040000 * 9) := fun a ha => sm_abs r _ _ (fun b hb => by
    rw [Int.natAbs_mul]
    exact Nat.mul_le_mul (Nat.le_trans (adj_abs hB a b) (ab_tab r (by omega)).1) (hX _ (hl b hb)))
  have b3 : (sm r (fun a => T k (ln a) * SS T ln r X a)).natAbs ≤ r * (60 * (r * (311040000 * 9))) := sm_abs r _ _ (fun a ha => by
    rw [Int.natAbs_mul]; exact Nat.mul_le_mul (hB _ _) (b2 a ha))
  have b4 : r * (60 * (r * (311040000 * 9))) ≤ 5 * (60 * (5 * (311040000 * 9))) := Nat.mul_le_mul hr (Nat.mul_le_mul_left _ (Nat.mul_le_mul_right _ hr))
  unfold UU
  omega
theorem wp_isKnown {T : Nat → Nat → Int} {n : Nat} (hn : n ≤ 5) (hB : ∀ i j, (T i j).natAbs ≤ 60) {g : Nat → Int32} (hg : g 1 = nI n) {table work part : Nat → Int64} {lines : Int32} {line : Nat → Int32} {base : Int64} {side under sum : Nat → Int64} {X : Nat → Int}
    (hT : ∀ i j, i < 5 → j < 5 → table (6 * i + j) = lI (T i j)) (hs : ∀ i, i < n → sum i = lI (X i)) (hX : ∀ i, i < n → (X i).natAbs ≤ 9) {k : Int32 → (Nat → Int64) → (Nat → Int64) → Int32 → (Nat → Int32) → Int64 → (Nat → Int64) → (Nat → Int64) → Prop}
    (h1 : (∀ j, j < n → UU T (gln T n).2 (gln T n).1 X j = 0) → ∀ work' part' line' side' under', (∀ a, a < (gln T n).1 → line' a = nI ((gln T n).2 a)) → k 1 work' part' (nI (gln T n).1) line' (lI (DD T (gln T n).2 (gln T n).1)) side' under')
    (h0 : ∀ j, j < n → UU T (gln T n).2 (gln T n).1 X j ≠ 0 → ∀ work' part' line' side' under', (∀ a, a < (gln T n).1 → line' a = nI ((gln T n).2 a)) → k 0 work' part' (nI (gln T n).1) line' (lI (DD T (gln T n).2 (gln T n).1)) side' under') :
    wpX7_isKnown g table work part lines line base side under sum k := by
  unfold wpX7_isKnown
  refine wp_find hn hB hg hT (fun w p l sd ud hl => ?_)
  obtain ⟨g1, g2⟩ := gln_le T n
  generalize (gln T n).1 = r at *
  generalize (gln T n).2 = ln at *
  refine wloop_n (fun i st => ∃ w p ud, st = (nI i, w, p, ud) ∧ ∀ j, j < i → UU T ln r X j = 0) n ⟨w, p, ud, rfl, fun j hj => absurd hj (Nat.not_lt_zero _)⟩ ?_ ?_
  · rintro i st again hi ⟨w, p, ud, rfl, hu⟩ hag
    rw [wbX7_isKnown_6, hg]
    refine pk_le n i (fun z => absurd z (by omega)) (fun _ => ?_)
    refine wloop_n (fun j st => ∃ ud, st = (nI j, ud) ∧ ∀ b, b < j → ud b = lI (T i b)) 5 ⟨ud, rfl, fun b hb => absurd hb (Nat.not_lt_zero _)⟩ ?_ ?_
    · rintro j st again2 hj ⟨ud, rfl, hud⟩ hag2
      rw [wbX7_isKnown_18]
      refine pk_le 5 j (fun z => absurd z (by omega)) (fun _ => ?_)
      rw [ix6]
      refine ⟨vp_in_nI (by omega) (by omega), vp_in_nI (by omega) (by omega), ?_⟩
      rw [nI_clamp (by omega), nI_clamp (by omega), hT i j (by omega) hj, nI_1]
      refine hag2 _ ⟨_, rfl, fun b hb => ?_⟩
      by_cases e : b = j
      · subst e; rw [pk_uLs]
      · rw [pk_uLn e, hud b (by omega)]
    · rintro st again2 ⟨ud, rfl, hud⟩
      rw [wbX7_isKnown_18]
      refine pk_le 5 5 (fun _ => ⟨vp_in_nI (by omega) (by omega), ?_⟩) (fun z => absurd z (by omega))
      rw [nI_clamp (by omega)]
      refine wp_bworth (X := X) (Y := T i) (by omega) (fun a ha => by have := g2 a ha; omega) hT hl (fun a ha => hs _ (g2 a ha)) (fun a ha => hud _ (by have := g2 a ha; omega)) (hs i hi)
        (k := fun w d p => ((d = 0) → (again (nI i + 1, w, p, ud))) ∧ (¬ (d = 0) → k 0 w p (nI r) l (lI (DD T ln r)) sd ud)) (fun w' p' => ?_)
      have e : X i * DD T ln r - sm r (fun p => T i (ln p) * SS T ln r X p) = UU T ln r X i := rfl
      have b := UX_abs (show r ≤ 5 by omega) hB g2 hX hi
      rw [e, lI_zero (by omega)]
      refine ⟨fun z => ?_, fun z => h0 i hi z w' p' l sd ud hl⟩
      rw [nI_1]
      refine hag _ ⟨w', p', ud, rfl, fun j hj => ?_⟩
      by_cases ej : j = i
      · subst ej; exact z
      · exact hu j (by omega)
  · rintro st again ⟨w, p, ud, rfl, hu⟩
    rw [wbX7_isKnown_6, hg]
    exact pk_le n n (fun _ => h1 hu w p l sd ud hl) (fun z => absurd z (by omega))
theorem QQ_SS (T : Nat → Nat → Int) (ln : Nat → Nat) (r : Nat) (L R : Nat → Int) : QQ T ln r L R = sm r (fun p => L (ln p) * SS T ln r R p) := yAx T ln r R (fun a => L (ln a))
theorem wp_given {T : Nat → Nat → Int} {ln : Nat → Nat} {r n : Nat} (hn : n ≤ 5) (hr : r ≤ 5) (hl : ∀ a, a < r → ln a < n) {table work part : Nat → Int64} {line : Nat → Int32} {p1 p2 : Nat → Int64} {X Y : Nat → Int}
    (hT : ∀ i j, i < 5 → j < 5 → table (6 * i + j) = lI (T i j)) (hline : ∀ a, a < r → line a = nI (ln a)) (h1 : ∀ i, i < n → p1 i = lI (X i)) (h2 : ∀ i, i < n → p2 i = lI (Y i)) {k : Int64 → (Nat → Int64) → (Nat → Int64) → Prop}
    (h : ∀ work' part', k (lI (QQ T ln r Y X)) work' part') : wpX7_given table work part (nI r) line p1 p2 k := by
  unfold wpX7_given
  refine wp_bworth (X := X) (Y := Y) (c := 0) hr (fun a ha => by have := hl a ha; omega) hT hline (fun i hi => h1 _ (hl i hi)) (fun i hi => h2 _ (hl i hi)) rfl (k := fun w d p => k (-d) w p) (fun w' p' => ?_)
  rw [← QQ_SS, lI_neg, Int.zero_mul, show -(0 - QQ T ln r Y X) = QQ T ln r Y X by omega]
  exact h w' p'
theorem given_same (table work part : Nat → Int64) (lines : Int32) (line : Nat → Int32) (p1 : Nat → Int64) (k : Int64 → (Nat → Int64) → (Nat → Int64) → Prop) : wpX7_given_p2p1 table work part lines line p1 k = wpX7_given table work part lines line p1 p1 k := rfl
