/-! the class's sweep -/
def ca (i j : Nat) : Nat := if i < j then tri j + i else tri i + j
theorem ca_lt : ∀ i, i < 5 → ∀ j, j < 5 → ca i j < 15 := by decide
theorem wp_cellAt {i j : Nat} (hi : i < 5) (hj : j < 5) {k : Int32 → Prop} (h : k (nI (ca i j))) : wpX2_cellAt (nI i) (nI j) k := by
  unfold wpX2_cellAt
  refine pk_lt i j (fun z => ⟨vp_in_nI (by omega) (by omega), ?_⟩) (fun z => ⟨vp_in_nI (by omega) (by omega), ?_⟩)
  · rw [(st_ix j hj i hi).1]
    unfold ca at h; rw [if_pos z] at h; exact h
  · rw [(st_ix i hi j hj).1]
    unfold ca at h; rw [if_neg (by omega)] at h; exact h
theorem GC_ca {n : Nat} {f : Nat → Int64} {F : Nat → Nat → Int} (hF : ∀ i j, F i j = F j i) (h : GC n f F) {i j : Nat} (hi : i < n) (hj : j < n) : f (ca i j) = lI (F i j) := by
  unfold ca
  by_cases e : i < j
  · rw [if_pos e, h j i hj (by omega), hF]
  · rw [if_neg e, h i j hi (by omega)]
theorem GC_k {n k : Nat} {f : Nat → Int64} {P : Nat → Nat → Bool} {F G : Nat → Nat → Int} (hF : ∀ i j, F i j = F j i) (h : GC n f (fun a b => if P a b = true ∧ a ≠ k ∧ b ≠ k then G a b else F a b)) {i : Nat} (hi : i < n) (hk : k < n) : f (ca i k) = lI (F i k) := by
  unfold ca
  by_cases e : i < k
  · rw [if_pos e, h k i hk (by omega)]
    dsimp only
    rw [if_neg (fun z => z.2.1 rfl), hF]
  · rw [if_neg e, h i k hi (by omega)]
    dsimp only
    rw [if_neg (fun z => z.2.2 rfl)]
theorem wp_sweepLine {n : Nat} (hn : n ≤ 5) {T : Nat → Nat → Int} (hT : ∀ i j, T i j = T j i) {ln : Nat → Nat} {r : Nat} (hi : inj ln (r + 1)) (hD : 0 < DD T ln r) (hp : 0 < DD T ln (r + 1)) (hk : ln r < n)
    (hDb : (DD T ln r).natAbs < 4611686018427387904)
    (hb : ∀ i j, i < n → j < n → i ≠ ln r → j ≠ ln r → (CV T ln (r + 1) i j).natAbs < 4611686018427387904 ∧ (CV T ln (r + 1) i j * DD T ln r).natAbs < 4611686018427387904)
    {cells : Nat → Int64} {size : Int32} {lower pivot : Int64} (hsz : size = nI n) (hl : lower = lI (DD T ln r)) (hpv : pivot = lI (DD T ln (r + 1))) (hc : GC n cells (CV T ln r)) {kk : (Nat → Int64) → Prop}
    (h : ∀ f, GC n f (CV T ln (r + 1)) → kk f) : wpX2_sweepLine cells size lower (nI (ln r)) pivot kk := by
  have hir : inj ln r := fun a b ha hb e => hi a b (by omega) (by omega) e
  have hs := CV_sym hT hir
  have hs2 := CV_sym hT hi
  have hD0 : DD T ln r ≠ 0 := by omega
  have hp0 : DD T ln (r + 1) ≠ 0 := by omega
  have st := fun i j => CV_step hT hi hD0 hp0 (i := i) (j := j)
  have sk := fun j => CV_k hT hi hD0 hp0 (j := j)
  have skk := CV_kk hT hi hD0 hp0
  generalize hkk : ln r = k at *
  generalize CV T ln r = F at *
  generalize CV T ln (r + 1) = G at *
  generalize DD T ln r = D at *
  generalize DD T ln (r + 1) = D2 at *
  subst hsz hl hpv
  unfold wpX2_sweepLine
  refine ⟨fun _ => ?_, fun z => absurd ((lI_le (a := 1) (by decide) (by omega)).mpr (by omega)) z⟩
  refine wloop_n (fun i st => ∃ f, st = (nI i, f) ∧ GC n f (fun a b => if decide (a < i) = true ∧ a ≠ k ∧ b ≠ k then G a b else F a b)) n ⟨cells, rfl, GC_congr hc (fun a b _ _ => if_neg (fun z => by simp at z))⟩ ?_ ?_
  · rintro i st2 again hin ⟨f, rfl, hf⟩ hag
    rw [wbX2_sweepLine_13]
    refine pk_le n i (fun z => absurd z (by omega)) (fun _ => wp_cellAt (by omega) (by omega) ⟨vp_in_nI (ca_lt i (by omega) k (by omega)) (by omega), ?_⟩)
    have rf := GC_k (P := fun a b => decide (a < i)) hs hf hin hk
    have cl := ca_lt i (by omega) k (by omega)
    refine wloop_n (fun j st => ∃ f, st = (nI j, f) ∧ GC n f (fun a b => if decide (a < i ∨ (a = i ∧ b < j)) = true ∧ a ≠ k ∧ b ≠ k then G a b else F a b)) (i + 1) ⟨f, rfl, GC_congr hf (fun a b _ _ => ?_)⟩ ?_ ?_
    · simp only [decide_eq_true_eq]
      by_cases e1 : a < i ∧ a ≠ k ∧ b ≠ k
      · rw [if_pos e1, if_pos (by omega)]
      · rw [if_neg e1, if_neg (by omega)]
    · rintro j st3 again2 hj ⟨f2, rfl, hf2⟩ hag2
      rw [wbX2_sweepLine_38]
      refine pk_lt i j (fun z => absurd z (by omega)) (fun _ => ?_)
      have skip : i = k ∨ j = k → again2 (nI (j + 1), f2) := fun e => hag2 _ ⟨f2, rfl, GC_congr hf2 (fun a b ha hb => by
        simp only [decide_eq_true_eq]
        by_cases e1 : (a < i ∨ (a = i ∧ b < j)) ∧ a ≠ k ∧ b ≠ k
        · rw [if_pos e1, if_pos (by omega)]
        · rw [if_neg e1, if_neg (by omega)])⟩
      rw [nI_1]
      refine pk_eq i k (fun e => skip (Or.inl e)) (fun e1 => pk_eq j k (fun e => skip (Or.inr e)) (fun e2 => ?_))
      obtain ⟨x1, x2⟩ := st_ix i (by omega) j (by omega)
      have x3 := x2 (by omega)
      have cl2 := ca_lt j (by omega) k (by omega)
      have rf2 := GC_k (P := fun a b => decide (a < i ∨ (a = i ∧ b < j))) hs hf2 (show j < n by omega) hk
      rw [x1]
      refine ⟨vp_in_nI (by omega) (by omega), vp_in_nI x3 (by omega), wp_cellAt (by omega) (by omega) ⟨vp_in_nI cl2 (by omega), ?_, vp_in_nI x3 (by omega), ?_⟩⟩
      · rw [← lI_0, lI_inj (by omega) (by decide)]; exact hD0
      · rw [nI_clamp (by omega), nI_clamp (by omega), nI_clamp (by omega), rf, rf2, hf2 i j hin (by omega)]
        dsimp only
        simp only [decide_eq_true_eq]
        rw [if_neg (by omega), lI_mul, lI_mul, lI_sub]
        have key := st i j e1 e2
        rw [hs k j] at key
        obtain ⟨b1, b2⟩ := hb i j hin (by omega) e1 e2
        rw [lI_div key hD0 (by omega) (by rw [key]; omega) (by omega)]
        refine hag2 _ ⟨_, rfl, GC_set hn hin (by omega) hf2 ?_ (fun a b ha hb hne => ?_)⟩
        · rw [if_pos ⟨decide_eq_true (by omega), e1, e2⟩]
        · simp only [decide_eq_true_eq]
          by_cases e3 : (a < i ∨ (a = i ∧ b < j)) ∧ a ≠ k ∧ b ≠ k
          · rw [if_pos e3, if_pos (by omega)]
          · rw [if_neg e3, if_neg (by omega)]
    · rintro st3 again2 ⟨f2, rfl, hf2⟩
      rw [wbX2_sweepLine_38]
      refine pk_lt i (i + 1) (fun _ => ?_) (fun z => absurd z (by omega))
      rw [nI_1]
      refine hag _ ⟨f2, rfl, GC_congr hf2 (fun a b ha hb => ?_)⟩
      simp only [decide_eq_true_eq]
      by_cases e3 : a < i + 1 ∧ a ≠ k ∧ b ≠ k
      · rw [if_pos e3, if_pos (by omega)]
      · rw [if_neg e3, if_neg (by omega)]
  · rintro st2 again ⟨f, rfl, hf⟩
    rw [wbX2_sweepLine_13]
    obtain ⟨x1, x2⟩ := st_ix k (by omega) k (by omega)
    have x3 := x2 (Nat.le_refl k)
    rw [x1]
    refine pk_le n n (fun _ => ⟨vp_in_nI (by omega) (by omega), vp_in_nI x3 (by omega), ?_⟩) (fun z => absurd z (by omega))
    rw [nI_clamp (by omega)]
    refine h _ (GC_set hn hk (Nat.le_refl k) hf ?_ (fun a b ha hb hne => ?_))
    · rw [skk, lI_neg]
    · simp only [decide_eq_true_eq]
      by_cases e1 : a = k
      · subst e1
        rw [if_neg (by omega)]
        exact sk b (fun e => hne ⟨rfl, e⟩)
      · by_cases e2 : b = k
        · subst e2
          rw [if_neg (by omega), hs2, sk a e1, hs]
        · rw [if_pos (by omega)]
theorem gln_inj {n : Nat} {T : Nat → Nat → Int} (hT : psd n T) {k : Nat} (hk : k ≤ n) : inj (gln T k).2 (gln T k).1 := fun a b ha hb e => by
  obtain ⟨_, _, h3, _⟩ := gln_ok hT k hk
  rcases Nat.lt_trichotomy a b with h | h | h
  · have := h3 a b h hb; omega
  · exact h
  · have := h3 b a h ha; omega
theorem gln_all {n : Nat} {T : Nat → Nat → Int} (hT : psd n T) {k : Nat} (hk : k ≤ n) (hr : (gln T k).1 = k) : ∀ a, a < k → (gln T k).2 a = a := by
  obtain ⟨_, h2, h3, _⟩ := gln_ok hT k hk
  have lo : ∀ a, a < k → a ≤ (gln T k).2 a := by
    intro a
    induction a with
    | zero => intro _; omega
    | succ a ih => intro ha; have := ih (by omega); have := h3 a (a + 1) (by omega) (by omega); omega
  have hi : ∀ d, d < k → (gln T k).2 (k - 1 - d) ≤ k - 1 - d := by
    intro d
    induction d with
    | zero => intro _; have := h2 (k - 1 - 0) (by omega); omega
    | succ d ih =>
      intro hd
      have := ih (by omega)
      have := h3 (k - 1 - (d + 1)) (k - 1 - d) (by omega) (by omega)
      omega
  intro a ha
  have h1 := lo a ha
  have h2 := hi (k - 1 - a) (by omega)
  rw [show k - 1 - (k - 1 - a) = a by omega] at h2
  omega
theorem DDb4 {T : Nat → Nat → Int} {ln : Nat → Nat} {r : Nat} (hr : r ≤ 4) (hB : ∀ i j, (T i j).natAbs ≤ 60) : (DD T ln r).natAbs ≤ 311040000 := by
  have h := det_abs r (sb T ln) 60 (fun a b _ _ => hB _ _)
  have t : ∀ r, r ≤ 4 → fac r * 60 ^ r ≤ 311040000 := by decide
  exact Nat.le_trans h (t r hr)
theorem nar_0 : vp_nar .boolean 0 = 0 := rfl
theorem nar_1 : vp_nar .boolean 1 = 1 := rfl
/-- what the swept marks are -/
def SP (m : Nat) (sw : Nat → Int32) (ln : Nat → Nat) (r : Nat) : Prop := ∀ i, i < m → sw i = (if spb ln r i then 1 else 0)
theorem wp_sweep {n : Nat} (hn : n ≤ 5) {T : Nat → Nat → Int} (hT : psd n T) (hB : ∀ i j, (T i j).natAbs ≤ 60) {cells : Nat → Int64} {sw : Nat → Int32} {size rank : Int32} {lower : Int64} (hsz : size = nI n) (hc : GC n cells T) {kk : (Nat → Int64) → (Nat → Int32) → Int32 → Int64 → Prop}
    (h : ∀ f sw', GC n f (CV T (gln T n).2 (gln T n).1) → SP n sw' (gln T n).2 (gln T n).1 → kk f sw' (nI (gln T n).1) (lI (DD T (gln T n).2 (gln T n).1))) : wpX2_sweep cells sw size rank lower kk := by
  unfold wpX2_sweep
  subst hsz
  refine wloop_n (fun k st => ∃ f sw, st = (nI k, f, sw, nI (gln T k).1, lI (DD T (gln T k).2 (gln T k).1)) ∧ GC n f (CV T (gln T k).2 (gln T k).1) ∧ SP k sw (gln T k).2 (gln T k).1) n ⟨cells, sw, rfl, GC_congr hc (fun a b _ _ => ?_), fun i hi => absurd hi (Nat.not_lt_zero _)⟩ ?_ ?_
  · have h0 : ∀ x, x < 0 → (gln T 0).2 x ≠ a := fun x hx => absurd hx (Nat.not_lt_zero _)
    have h1 : ∀ x, x < 0 → (gln T 0).2 x ≠ b := fun x hx => absurd hx (Nat.not_lt_zero _)
    show CV T (gln T 0).2 0 a b = T a b
    rw [CV_u h0, XC_u h1]
    unfold UU DD
    simp [sm, det]
  · rintro k st again hk ⟨f, sw, rfl, hf, hsw⟩ hag
    obtain ⟨g1, g2, g3, g4⟩ := gln_ok hT k (by omega)
    have gi := gln_inj hT (show k ≤ n by omega)
    have eg : gln T (k + 1) = if UU T (gln T k).2 (gln T k).1 (fun i => T i k) k = 0 then gln T k else ((gln T k).1 + 1, fun a => if a = (gln T k).1 then k else (gln T k).2 a) := rfl
    have gi2 := gln_inj hT (show k + 1 ≤ n by omega)
    have gok2 := gln_ok hT (k + 1) (by omega)
    have ga2 := gln_all hT (show k + 1 ≤ n by omega)
    generalize hr : (gln T k).1 = r at *
    generalize hln : (gln T k).2 = ln at *
    have hnk : ∀ a, a < r → ln a ≠ k := fun a ha e => by have := g2 a ha; omega
    have hnn := piv_nonneg hT (fun a ha => by have := g2 a ha; omega) hk g4
    have bU := UUb (ln := ln) (r := r) (show r ≤ 4 by omega) hB k k
    obtain ⟨x1, x2⟩ := st_ix k (by omega) k (by omega)
    have x3 := x2 (Nat.le_refl k)
    have ec : f (tri k + k) = lI (UU T ln r (fun i => T i k) k) := by rw [hf k k hk (Nat.le_refl k), CV_u hnk, XC_u hnk]
    rw [wbX2_sweep_12]
    refine pk_le n k (fun z => absurd z (by omega)) (fun _ => ?_)
    rw [x1, nI_clamp (by omega), ec, ← lI_0, lI_le (by omega) (by decide)]
    refine ⟨vp_in_nI (by omega) (by omega), vp_in_nI x3 (by omega), fun z => ?_, fun z => ?_⟩
    · rw [wjX2_sweep_49, x1, nI_clamp (by omega), ec, ← lI_0, lI_le (by omega) (by decide), nar_0, nI_1, nI_clamp (by omega)]
      refine ⟨vp_in_nI (by omega) (by omega), fun _ => ?_, fun z2 => absurd z z2⟩
      have e : gln T (k + 1) = gln T k := by rw [eg, if_pos (by omega)]
      refine hag _ ⟨f, _, by rw [e, hr, hln], by rw [e, hr, hln]; exact hf, by
        rw [e, hr, hln]
        intro i hi
        by_cases ei : i = k
        · subst ei; rw [pk_us, spb_f hnk]; rfl
        · rw [pk_un ei, hsw i (by omega)]⟩
    · have e : gln T (k + 1) = (r + 1, fun a => if a = r then k else ln a) := by rw [eg, if_neg (by omega)]
      rw [e] at gi2 gok2 ga2
      dsimp only at gi2 gok2 ga2
      generalize hl2 : (fun a => if a = r then k else ln a) = l2 at *
      have hag' := fun a (ha : a < r) => show ln a = l2 a by rw [← hl2]; dsimp only; rw [if_neg (by omega)]
      have hlr : l2 r = k := by rw [← hl2]; dsimp only; rw [if_pos rfl]
      have eD : DD T ln r = DD T l2 r := DD_cong hag'
      have eP : UU T ln r (fun i => T i k) k = DD T l2 (r + 1) := by rw [DD_succ, hlr, UU_cong hag']
      have eC : ∀ a b, CV T ln r a b = CV T l2 r a b := CV_cong hag' gi
      rw [wjX2_sweep_49, x1, nI_clamp (by omega), ec, ← lI_0, lI_le (by omega) (by decide), nar_1, nI_1, nI_1, nI_clamp (by omega)]
      refine ⟨vp_in_nI (by omega) (by omega), fun z2 => absurd z2 z, fun _ => ?_⟩
      have b3 := DDb4 (ln := l2) (r := r) (show r ≤ 4 by omega) hB
      rw [← hlr]
      refine wp_sweepLine hn hT.1 gi2 (by omega) gok2.2.2.2 (by omega) (by omega) (fun i j hi hj hne1 hne2 => ?_) rfl (by rw [eD]) (by rw [hlr, eP]) (GC_congr hf (fun a b _ _ => (eC a b).symm)) (fun f' hf' => ?_)
      · by_cases h4 : r ≤ 3
        · have b1 := CV_abs hT.1 hB (show r + 1 ≤ 4 by omega) gi2 i j
          have b2 := DDb3 (ln := l2) (r := r) h4 hB
          have b4 : (CV T l2 (r + 1) i j * DD T l2 r).natAbs ≤ 100000000000 * 1296000 := by
            rw [Int.natAbs_mul]; exact Nat.mul_le_mul b1 b2
          exact ⟨by omega, by omega⟩
        · have hid : ∀ a, a < k + 1 → l2 a = a := fun a ha => by rw [← hl2]; exact ga2 (by omega) a ha
          have b1 := CV_abs2 hB (show r + 1 ≤ 5 by omega) gi2 (show i < r + 1 by omega) (show j < r + 1 by omega)
          rw [hid i (by omega), hid j (by omega)] at b1
          have b4 : (CV T l2 (r + 1) i j * DD T l2 r).natAbs ≤ 311040000 * 311040000 := by
            rw [Int.natAbs_mul]; exact Nat.mul_le_mul b1 b3
          exact ⟨by omega, by omega⟩
      · refine hag _ ⟨f', _, by rw [hlr, e, eP], by rw [e]; exact hf', by
          rw [e]
          intro i hi
          dsimp only
          by_cases ei : i = k
          · subst ei
            rw [pk_us]
            have := spb_t (ln := l2) (show r < r + 1 by omega)
            rw [hlr] at this
            rw [this]; rfl
          · rw [pk_un ei, hsw i (by omega)]
            rcases spb_or ln r i with ⟨a, ha, rfl⟩ | hno
            · rw [spb_t ha, hag' a ha, spb_t (show a < r + 1 by omega)]
            · rw [spb_f hno, spb_f (fun a ha => by
                by_cases ea : a = r
                · subst ea; rw [hlr]; exact fun z => ei z.symm
                · rw [← hag' a (by omega)]; exact hno a (by omega))]⟩
  · rintro st again ⟨f, sw, rfl, hf, hsw⟩
    rw [wbX2_sweep_12]
    exact pk_le n n (fun _ => h f sw hf hsw) (fun z => absurd z (by omega))
