/-! the class's determinant -/
theorem UU_sym (T : Nat → Nat → Int) (hT : ∀ i j, T i j = T j i) (ln : Nat → Nat) (r i j : Nat) : UU T ln r (fun a => T a j) i = UU T ln r (fun a => T a i) j := by
  unfold UU
  dsimp only
  rw [hT i j]
  congr 1
  unfold SS
  rw [sm_congr (fun a _ => (sm_mul r (T i (ln a)) (fun b => adj r (sb T ln) a b * T (ln b) j)).symm), sm_swap]
  refine sm_congr (fun b hb => ?_)
  rw [← sm_mul]
  refine sm_congr (fun a ha => ?_)
  rw [adj_sym r (sb T ln) (fun i j _ _ => hT _ _) ha hb, hT i (ln a), hT (ln b) j]
  grind
theorem fac_tab : ∀ r, r < 6 → fac r * 60 ^ r ≤ 100000000000 := by decide
theorem fac_tab3 : ∀ r, r < 4 → fac r * 60 ^ r ≤ 1296000 := by decide
theorem UUb {T : Nat → Nat → Int} {ln : Nat → Nat} {r : Nat} (hr : r ≤ 4) (hB : ∀ i j, (T i j).natAbs ≤ 60) (i j : Nat) : (UU T ln r (fun a => T a j) i).natAbs ≤ 100000000000 := by
  rw [← UU_det]
  refine Nat.le_trans (det_abs (r + 1) _ 60 (fun a b _ _ => ?_)) (fac_tab (r + 1) (by omega))
  unfold bd sb
  split <;> split <;> exact hB _ _
theorem DDb {T : Nat → Nat → Int} {ln : Nat → Nat} {r : Nat} (hr : r ≤ 5) (hB : ∀ i j, (T i j).natAbs ≤ 60) : (DD T ln r).natAbs ≤ 100000000000 :=
  Nat.le_trans (det_abs r _ 60 (fun a b _ _ => hB _ _)) (fac_tab r (by omega))
theorem DDb3 {T : Nat → Nat → Int} {ln : Nat → Nat} {r : Nat} (hr : r ≤ 3) (hB : ∀ i j, (T i j).natAbs ≤ 60) : (DD T ln r).natAbs ≤ 1296000 :=
  Nat.le_trans (det_abs r _ 60 (fun a b _ _ => hB _ _)) (fac_tab3 r (by omega))
def idn : Nat → Nat := fun a => a
def Uk (T : Nat → Nat → Int) (k i j : Nat) : Int := UU T idn k (fun a => T a j) i
theorem Uk_sym {T : Nat → Nat → Int} (hT : ∀ i j, T i j = T j i) (k i j : Nat) : Uk T k i j = Uk T k j i := UU_sym T hT idn k i j
theorem Uk_piv (T : Nat → Nat → Int) (k : Nat) : Uk T k k k = DD T idn (k + 1) := (DD_succ T idn k).symm
theorem Uk_0 (T : Nat → Nat → Int) (i j : Nat) : Uk T 0 i j = T i j := by
  unfold Uk UU DD
  simp [sm, det]
theorem DD_det (T : Nat → Nat → Int) (n : Nat) : DD T idn n = det n T := rfl
theorem Uk_step {T : Nat → Nat → Int} (hT : ∀ i j, T i j = T j i) {k : Nat} (hD : DD T idn k ≠ 0) (hp : DD T idn (k + 1) ≠ 0) (i j : Nat) : Uk T k i j * DD T idn (k + 1) - Uk T k i k * Uk T k j k = Uk T (k + 1) i j * DD T idn k := by
  have h := UU_step T hT idn k hD hp (fun a => T a j) i
  have e : UU T idn k (fun a => T a j) (idn k) = Uk T k j k := UU_sym T hT idn k k j
  have e2 : UU T idn k (fun a => T a (idn k)) i = Uk T k i k := rfl
  rw [e, e2] at h
  unfold Uk at h ⊢
  generalize UU T idn (k + 1) (fun a => T a j) i = u1 at h ⊢
  generalize UU T idn k (fun a => T a j) i = u0 at h ⊢
  generalize UU T idn k (fun a => T a k) j = a at h ⊢
  generalize UU T idn k (fun a => T a k) i = b at h ⊢
  grind
def GK (n k : Nat) (f : Nat → Int64) (F : Nat → Nat → Int) : Prop := ∀ i j, k ≤ j → j ≤ i → i < n → f (tri i + j) = lI (F i j)
theorem GK_set {n k : Nat} {f : Nat → Int64} {F G : Nat → Nat → Int} (hn : n ≤ 5) {i j : Nat} (hi : i < n) (hj : j ≤ i) (h : GK n k f F) {v : Int64} (hv : v = lI (G i j)) (hG : ∀ a b, k ≤ b → b ≤ a → a < n → ¬ (a = i ∧ b = j) → G a b = F a b) : GK n k (vp_updL f (tri i + j) v) G := by
  intro a b hk hb ha
  by_cases e : a = i ∧ b = j
  · obtain ⟨rfl, rfl⟩ := e
    rw [pk_uLs, hv]
  · rw [pk_uLn (tri_ne (by omega) hj (by omega) hb e), h a b hk hb ha, hG a b hk hb ha e]
theorem GK_congr {n k : Nat} {f : Nat → Int64} {F G : Nat → Nat → Int} (h : GK n k f F) (hG : ∀ a b, k ≤ b → b ≤ a → a < n → G a b = F a b) : GK n k f G := fun a b hk hb ha => by rw [h a b hk hb ha, hG a b hk hb ha]
theorem det_ix : ∀ n, n ≤ 5 → 1 ≤ n → stI ((nI (n - 1)).toNatClampNeg) + nI n - 1 = nI (tri (n - 1) + (n - 1)) := by decide +kernel
theorem wp_det {n : Nat} (h1n : 1 ≤ n) (hn : n ≤ 5) {T : Nat → Nat → Int} (hT : psd n T) (hB : ∀ i j, (T i j).natAbs ≤ 60) {cells : Nat → Int64} {size : Int32} (hsz : size = nI n) (hc : GC n cells T) {kk : Int64 → (Nat → Int64) → Prop} (h : ∀ f, kk (lI (det n T)) f) : wpX2_determinant cells size kk := by
  unfold wpX2_determinant
  subst hsz
  have e1 : nI n - 1 = nI (n - 1) := pk_sub (a := n) (b := 1) h1n
  refine wloop_n (fun k st => ∃ f, st = (lI (DD T idn k), nI k, f) ∧ GK n k f (Uk T k) ∧ 0 < DD T idn k) (n - 1) ⟨cells, rfl, fun i j _ hj hi => by rw [Uk_0]; exact hc i j hi hj, by show (0 : Int) < 1; decide⟩ ?_ ?_
  · rintro k st again hk ⟨f, rfl, hf, hD⟩ hag
    rw [wbX2_determinant_4, e1]
    refine pk_le (n - 1) k (fun z => absurd z (by omega)) (fun _ => ?_)
    obtain ⟨x1, x2⟩ := st_ix k (by omega) k (by omega)
    have x3 := x2 (Nat.le_refl k)
    rw [x1]
    refine ⟨vp_in_nI (by omega) (by omega), vp_in_nI x3 (by omega), ?_⟩
    have bp := UUb (ln := idn) (r := k) (show k ≤ 4 by omega) hB k k
    have ep : Uk T k k k = DD T idn (k + 1) := Uk_piv T k
    have bD1 := DDb (ln := idn) (r := k + 1) (show k + 1 ≤ 5 by omega) hB
    have bD := DDb3 (ln := idn) (r := k) (show k ≤ 3 by omega) hB
    rw [nI_clamp (by omega), hf k k (Nat.le_refl k) (Nat.le_refl k) (by omega), ep]
    rw [← lI_0, lI_lt (by decide) (by omega)]
    refine ⟨fun hp => ?_, fun hp => ?_⟩
    · have hD0 : DD T idn k ≠ 0 := by omega
      have hp0 : DD T idn (k + 1) ≠ 0 := by omega
      rw [nI_1]
      refine wloop_n (fun t st => ∃ f, st = (nI (k + 1 + t), f) ∧ GK n k f (fun a b => if a < k + 1 + t ∧ k + 1 ≤ b then Uk T (k + 1) a b else Uk T k a b)) (n - (k + 1)) ⟨f, rfl, GK_congr hf (fun a b hb1 hb2 ha => if_neg (by omega))⟩ ?_ ?_
      · rintro t st again2 ht ⟨f2, rfl, hf2⟩ hag2
        rw [wbX2_determinant_42]
        refine pk_le n (k + 1 + t) (fun z => absurd z (by omega)) (fun _ => ⟨vp_in_nI (by omega) (by omega), ?_⟩)
        obtain ⟨y1, y2⟩ := st_ix (k + 1 + t) (by omega) k (by omega)
        have y3 := y2 (by omega)
        rw [y1]
        refine ⟨vp_in_nI y3 (by omega), ?_⟩
        rw [nI_1]
        refine wloop_n (fun u st => ∃ f, st = (nI (k + 1 + u), f) ∧ GK n k f (fun a b => if (a < k + 1 + t ∨ (a = k + 1 + t ∧ b < k + 1 + u)) ∧ k + 1 ≤ b then Uk T (k + 1) a b else Uk T k a b)) (t + 1) ⟨f2, rfl, GK_congr hf2 (fun a b hb1 hb2 ha => ?_)⟩ ?_ ?_
        · by_cases e : a < k + 1 + t ∧ k + 1 ≤ b
          · rw [if_pos e, if_pos (by omega)]
          · rw [if_neg e, if_neg (by omega)]
        · rintro u st again3 hu ⟨f3, rfl, hf3⟩ hag3
          rw [wbX2_determinant_71]
          refine pk_lt (k + 1 + t) (k + 1 + u) (fun z => absurd z (by omega)) (fun _ => ?_)
          obtain ⟨z1, z2⟩ := st_ix (k + 1 + t) (by omega) (k + 1 + u) (by omega)
          have z3 := z2 (by omega)
          obtain ⟨w1, w2⟩ := st_ix (k + 1 + u) (by omega) k (by omega)
          have w3 := w2 (by omega)
          rw [x1, y1, z1, w1]
          refine ⟨vp_in_nI (by omega) (by omega), vp_in_nI z3 (by omega), vp_in_nI (by omega) (by omega), vp_in_nI w3 (by omega), ?_, vp_in_nI z3 (by omega), ?_⟩
          · rw [← lI_0, lI_inj (by omega) (by decide)]; exact hD0
          · rw [nI_clamp (by omega), nI_clamp (by omega), nI_clamp (by omega), nI_clamp (by omega)]
            rw [hf k k (Nat.le_refl k) (Nat.le_refl k) (by omega), ep, hf2 (k + 1 + t) k (Nat.le_refl k) (by omega) (by omega), hf3 (k + 1 + t) (k + 1 + u) (by omega) (by omega) (by omega), hf3 (k + 1 + u) k (Nat.le_refl k) (by omega) (by omega)]
            dsimp only
            rw [if_neg (by omega), if_neg (by omega), if_neg (by omega), lI_mul, lI_mul, lI_sub]
            have key := Uk_step hT.1 hD0 hp0 (k + 1 + t) (k + 1 + u)
            have b1 := UUb (ln := idn) (r := k + 1) (show k + 1 ≤ 4 by omega) hB (k + 1 + t) (k + 1 + u)
            have b2 : (Uk T (k + 1) (k + 1 + t) (k + 1 + u) * DD T idn k).natAbs ≤ 100000000000 * 1296000 := by
              rw [Int.natAbs_mul]; exact Nat.mul_le_mul b1 bD
            rw [lI_div key hD0 (by omega) (by rw [key]; omega) (by show (UU _ _ _ _ _).natAbs < _; omega), nI_1]
            refine hag3 _ ⟨_, rfl, GK_set hn (by omega) (by omega) hf3 ?_ (fun a b hb1 hb2 ha hne => ?_)⟩
            · rw [if_pos (by omega)]
            · by_cases e : (a < k + 1 + t ∨ (a = k + 1 + t ∧ b < k + 1 + u)) ∧ k + 1 ≤ b
              · rw [if_pos e, if_pos (by omega)]
              · rw [if_neg e, if_neg (by omega)]
        · rintro st again3 ⟨f3, rfl, hf3⟩
          rw [wbX2_determinant_71]
          refine pk_lt (k + 1 + t) (k + 1 + (t + 1)) (fun _ => ?_) (fun z => absurd z (by omega))
          rw [nI_1]
          refine hag2 _ ⟨_, rfl, GK_congr hf3 (fun a b hb1 hb2 ha => ?_)⟩
          by_cases e : a < k + 1 + (t + 1) ∧ k + 1 ≤ b
          · rw [if_pos e, if_pos (by omega)]
          · rw [if_neg e, if_neg (by omega)]
      · rintro st again2 ⟨f2, rfl, hf2⟩
        rw [wbX2_determinant_42]
        refine pk_le n (k + 1 + (n - (k + 1))) (fun _ => ?_) (fun z => absurd z (by omega))
        rw [x1, nI_clamp (by omega), hf k k (Nat.le_refl k) (Nat.le_refl k) (by omega), ep, nI_1]
        refine hag _ ⟨_, rfl, fun i j hj1 hj2 hi => ?_, hp⟩
        rw [hf2 i j (by omega) hj2 hi]
        dsimp only
        rw [if_pos (by omega)]
    · have h0 : UU T idn k (fun j => T j k) k = 0 := by
        have hnn := piv_nonneg hT (ln := idn) (r := k) (k := k) (fun a ha => by show a < n; omega) (by omega) hD
        have : UU T idn k (fun j => T j k) k = DD T idn (k + 1) := ep
        omega
      have hz : det n T = 0 := det_ker (v := kv T idn k k) (fun i hi => by
        rw [mv_kv T (fun a ha => by show a < n; omega) (by omega)]
        exact piv_zero hT (fun a ha => by show a < n; omega) (by omega) h0 hi) (show k < n by omega) (by
        unfold kv; rw [pv_k (fun a ha => by show a ≠ k; omega)]; omega)
      have hh := h f
      rw [hz] at hh
      exact hh
  · rintro st again ⟨f, rfl, hf, hD⟩
    rw [wbX2_determinant_4, e1]
    refine pk_le (n - 1) (n - 1) (fun _ => ?_) (fun z => absurd z (by omega))
    obtain ⟨x1, x2⟩ := st_ix (n - 1) (by omega) (n - 1) (by omega)
    have x3 := x2 (Nat.le_refl _)
    have e2 : stI ((nI (n - 1)).toNatClampNeg) + nI n - 1 = nI (tri (n - 1) + (n - 1)) := det_ix n hn h1n
    rw [e2]
    refine ⟨vp_in_nI (by omega) (by omega), vp_in_nI x3 (by omega), ?_⟩
    rw [nI_clamp (by omega), hf (n - 1) (n - 1) (Nat.le_refl _) (Nat.le_refl _) (by omega), Uk_piv, show n - 1 + 1 = n by omega]
    exact h f
