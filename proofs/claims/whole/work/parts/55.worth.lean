/-! the reference's determinant: by sets of columns -/
def bl (s j : Nat) : Nat := match j with
  | 0 => 0
  | j + 1 => bl s j + s / 2 ^ j % 2
def col (s p : Nat) : Nat := ((List.range 6).filter (fun j => s / 2 ^ j % 2 = 1)).getD p 0
theorem tb1 : ∀ s, s < 64 → ∀ j, j < 6 → ((((nI s >>> (nI j &&& 31)) &&& (1 : Int32)) = 0) ↔ s / 2 ^ j % 2 = 0) ∧ nI s ^^^ ((1 : Int32) <<< (nI j &&& 31)) = nI (s ^^^ 2 ^ j) := by decide +kernel
theorem tb2 : ∀ s, s < 64 → ∀ j, j < 6 → s / 2 ^ j % 2 ≠ 0 → col s (bl s j) = j ∧ bl s j < pc s ∧ bl s (j + 1) = bl s j + 1 ∧ pc (s ^^^ 2 ^ j) + 1 = pc s ∧ s ^^^ 2 ^ j < s := by decide +kernel
theorem tb3 : ∀ s, s < 64 → ∀ j, j < 6 → s / 2 ^ j % 2 ≠ 0 → ∀ q, q < 6 → q + 1 < pc s → col (s ^^^ 2 ^ j) q = col s (up (bl s j) q) := by decide +kernel
theorem tb4 : ∀ s, s < 64 → ∀ j, j < 6 → s / 2 ^ j % 2 = 0 → bl s (j + 1) = bl s j := by decide +kernel
theorem tb5 : ∀ n, n < 7 → ∀ s, s < 64 → s < 2 ^ n → bl s n = pc s := by decide +kernel
theorem tb6 : ∀ n, n < 7 → pc (2 ^ n - 1) = n ∧ (∀ p, p < 6 → p < n → col (2 ^ n - 1) p = p) := by decide +kernel
theorem tb7 : ∀ s, s < 64 → s ≠ 0 → 0 < pc s ∧ pc s ≤ 6 := by decide +kernel
theorem tb8 : ∀ s, s < 64 → ∀ n, n < 7 → s < 2 ^ n → pc s ≤ n := by decide +kernel
theorem tb9 : ∀ s, s < 64 → ∀ p, p < 6 → p < pc s → col s p < 6 ∧ s / 2 ^ (col s p) % 2 ≠ 0 ∧ bl s (col s p) = p := by decide +kernel
theorem tb10 : ∀ a, a < 13 → ((nI a - nI a / (2 : Int32) * (2 : Int32) = 0) ↔ sg a = 1) := by decide +kernel
/-- the determinant of the first lines and the columns of a set -/
def ds (A : Nat → Nat → Int) (s : Nat) : Int := det (pc s) (fun i p => A i (col s p))
def tm (A : Nat → Nat → Int) (s p : Nat) : Int := sg (pc s - 1 + p) * A (pc s - 1) (col s p) * ds A (s ^^^ 2 ^ (col s p))
theorem ds_sum (A : Nat → Nat → Int) {s : Nat} (hs : s < 64) (h0 : s ≠ 0) : ds A s = sm (pc s) (tm A s) := by
  obtain ⟨h1, h2⟩ := tb7 s hs h0
  unfold ds
  obtain ⟨r, hr⟩ : ∃ r, pc s = r + 1 := ⟨pc s - 1, by omega⟩
  rw [hr, det]
  refine sm_congr (fun p hp => ?_)
  obtain ⟨c1, c2, c3⟩ := tb9 s hs p (by omega) (by omega)
  obtain ⟨d1, d2, d3, d4, d5⟩ := tb2 s hs (col s p) c1 c2
  unfold tm ds
  rw [hr, Nat.add_sub_cancel]
  congr 1
  have e : pc (s ^^^ 2 ^ col s p) = r := by omega
  rw [e]
  refine det_congr (fun i q hi hq => ?_)
  show A i (col s (up p q)) = A i (col (s ^^^ 2 ^ col s p) q)
  rw [tb3 s hs (col s p) c1 c2 q (by omega) (by omega), c3]
theorem wp_worth {n : Nat} (hn : n < 7) {work part : Nat → Int64} {A : Nat → Nat → Int} (hA : ∀ i j, i < n → j < n → work (6 * i + j) = lI (A i j)) {k : Int64 → (Nat → Int64) → Prop} (h : ∀ part', k (lI (det n A)) part') : wpX7_worthOf work part (nI n) k := by
  unfold wpX7_worthOf
  have h2n : 2 ^ n ≤ 64 ∧ 0 < 2 ^ n := (shl_tab n hn).2
  have fin : ∀ f : Nat → Int64, (∀ s, s < 2 ^ n → f s = lI (ds A s)) → f (2 ^ n - 1) = lI (det n A) := by
    intro f hf
    rw [hf (2 ^ n - 1) (by omega)]
    unfold ds
    rw [(tb6 n hn).1]
    congr 1
    exact det_congr (fun i j _ hj => by rw [(tb6 n hn).2 j (by omega) hj])
  refine wloop_n (fun i st => ∃ f, st = (nI (i + 1), f) ∧ ∀ s, s < i + 1 → f s = lI (ds A s)) (2 ^ n - 1) ⟨_, rfl, fun s hs => ?_⟩ ?_ ?_
  · have e : s = 0 := by omega
    subst e
    rw [pk_uLs]; rfl
  · rintro i st again hi ⟨f, rfl, hf⟩ hag
    rw [wbX7_worthOf_9, (shl_tab n hn).1]
    refine pk_le (2 ^ n) (i + 1) (fun z => absurd z (by omega)) (fun _ => ?_)
    have hs : i + 1 < 64 := by omega
    refine wp_ones hs ?_
    obtain ⟨p1, p2⟩ := tb7 (i + 1) hs (by omega)
    have p3 := tb8 (i + 1) hs n hn (by omega)
    refine wloop_n (fun j st => st = (lI (sm (bl (i + 1) j) (tm A (i + 1))), nI (bl (i + 1) j), nI j)) n rfl ?_ ?_
    · rintro j st again2 hj rfl hag2
      rw [wbX7_worthOf_33]
      refine pk_le n j (fun z => absurd z (by omega)) (fun _ => ?_)
      obtain ⟨t1, t2⟩ := tb1 (i + 1) hs j (by omega)
      rw [t1]
      refine ⟨fun z => ?_, fun z => ?_⟩
      · refine hag2 _ ?_
        rw [tb4 (i + 1) hs j (by omega) z, nI_1]
      · obtain ⟨d1, d2, d3, d4, d5⟩ := tb2 (i + 1) hs j (by omega) z
        have e1 : nI (pc (i + 1)) - 1 = nI (pc (i + 1) - 1) := pk_sub (a := pc (i + 1)) (b := 1) p1
        have e2 : (6 : Int32) * nI (pc (i + 1) - 1) + nI j = nI (6 * (pc (i + 1) - 1) + j) := by
          show nI 6 * _ + _ = _
          rw [pk_mul, nI_add]
        rw [e1, e2, t2]
        refine ⟨vp_in_nI (by omega) (by omega), vp_in_nI (by omega) (by omega), ?_⟩
        rw [nI_clamp (by omega), nI_clamp (by omega), hA _ _ (by omega) hj, hf _ d5, nI_add, tb10 _ (by omega)]
        have e3 : sm (bl (i + 1) (j + 1)) (tm A (i + 1)) = sm (bl (i + 1) j) (tm A (i + 1)) + sg (pc (i + 1) - 1 + bl (i + 1) j) * A (pc (i + 1) - 1) j * ds A ((i + 1) ^^^ 2 ^ j) := by
          rw [d3, sm]; unfold tm; rw [d1]
        refine ⟨fun w => ?_, fun w => ?_⟩
        · refine hag2 _ ?_
          rw [e3, w, lI_mul, lI_add, nI_1, nI_1, d3, Int.one_mul]
        · have w2 : sg (pc (i + 1) - 1 + bl (i + 1) j) = -1 := by
            unfold sg at w ⊢; split at w
            · exact absurd rfl w
            · rename_i q; rw [if_neg q]
          refine hag2 _ ?_
          rw [e3, w2, lI_mul, lI_neg, lI_add, nI_1, nI_1, d3]
          congr 2
          rw [Int.mul_assoc, Int.neg_mul, Int.one_mul]
    · rintro st again2 rfl
      rw [wbX7_worthOf_33]
      refine pk_le n n (fun _ => ?_) (fun z => absurd z (by omega))
      refine ⟨vp_in_nI hs (by omega), ?_⟩
      rw [nI_clamp (by omega), nI_1]
      refine hag _ ⟨_, rfl, fun s hs2 => ?_⟩
      by_cases e : s = i + 1
      · subst e
        rw [pk_uLs, tb5 n hn _ hs (by omega), ← ds_sum A hs (by omega)]
      · rw [pk_uLn e]
        exact hf s (by omega)
  · rintro st again ⟨f, rfl, hf⟩
    rw [wbX7_worthOf_9, (shl_tab n hn).1]
    refine pk_le (2 ^ n) (2 ^ n - 1 + 1) (fun _ => ?_) (fun z => absurd z (by omega))
    have e1 : nI (2 ^ n) - 1 = nI (2 ^ n - 1) := pk_sub (a := 2 ^ n) (b := 1) (by omega)
    rw [e1]
    refine ⟨vp_in_nI (by omega) (by omega), ?_⟩
    rw [nI_clamp (by omega), fin f (fun s hs => hf s (by omega))]
    exact h f
