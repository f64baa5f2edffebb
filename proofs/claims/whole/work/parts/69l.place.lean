/-! the class's search of PLANS -/
def Dn (S N : Nat) (t : Nat → Nat) (f : Nat) (u : Nat → Nat) : Prop := RV S N u ∧ ∃ j, j < f ∧ (∀ i, i < j → u i = t i) ∧ t j < u j
def Dn2 (S N : Nat) (t : Nat → Nat) (f : Nat) (u : Nat → Nat) : Prop := Dn S N t f u ∨ (RV S N u ∧ (∀ i, i < f → u i = t i) ∧ t f ≤ u f)
theorem Dn_s {S N : Nat} {t : Nat → Nat} {s : Nat} {u : Nat → Nat} : Dn S N t (s + 1) u ↔ Dn S N t s u ∨ (RV S N u ∧ (∀ i, i < s → u i = t i) ∧ t s < u s) := by
  constructor
  · rintro ⟨h, j, j1, j2, j3⟩
    by_cases e : j = s
    · subst e; exact Or.inr ⟨h, j2, j3⟩
    · exact Or.inl ⟨h, j, by omega, j2, j3⟩
  · rintro (⟨h, j, j1, j2, j3⟩ | ⟨h, h1, h2⟩)
    · exact ⟨h, j, by omega, j2, j3⟩
    · exact ⟨h, s, by omega, h1, h2⟩
theorem tot_split {u : Nat → Nat} {f S : Nat} (h : f ≤ S) : tot u S = tot u f + sm (S - f) (fun k => (u (f + k) : Int)) := by
  unfold tot
  rw [show S = f + (S - f) by omega, sm_split, show f + (S - f) - f = S - f by omega]
theorem wp_place {K n N : Nat} (hK : K ≤ 6) (hn1 : 1 ≤ n) (hn : n ≤ 5) (hN : N ≤ 40) {te : Nat → Nat} (hte : ∀ i, i < n → te i < 64) {signs : Nat → Int32} (hsg : ∀ s, s < 2 ^ K → signs s = nI (sgs te s n)) :
    ∀ m d, 1 ≤ m → m < d → ∀ (t : Nat → Nat) (placed f : Nat), placed + m = N → f < 2 ^ K → (∀ s, f < s → t s = 0) → (∀ s, t s ≤ 9) → tot t (2 ^ K) = (placed : Int) → (∀ s, s < 2 ^ K → t s ≤ t 0) →
    ∀ (times tally : Nat → Int32) (sc lc : Nat → Int64) (lz : Int32) (gr : Int64) (fi : Nat → Int32) (k : (Nat → Int32) → (Nat → Int32) → (Nat → Int64) → (Nat → Int64) → Int32 → Int64 → (Nat → Int32) → Prop),
    (∀ s, s < 64 → times s = nI (t s)) → GC n sc (tbp n te id t (2 ^ K)) → JX (2 ^ K) (WW K n te) (Dn (2 ^ K) N t f) gr tally fi →
    (∀ times' tally' sc' lc' lz' gr' fi', (∀ s, s < 64 → times' s = nI (t s)) → GC n sc' (tbp n te id t (2 ^ K)) → JX (2 ^ K) (WW K n te) (Dn2 (2 ^ K) N t f) gr' tally' fi' → k times' tally' sc' lc' lz' gr' fi') →
    wpX5_place d (nI N) (nI (2 ^ K)) signs times tally sc (nI n) lc lz gr fi (nI placed) (nI f) k
  | 0, _, h, _ => absurd h (by omega)
  | m + 1, 0, _, h => absurd h (by omega)
  | m + 1, d + 1, _, hd => by
    intro t placed f hpm hf hz h9 htot hmx times tally sc lc lz gr fi k ht hsc hj hk
    have h64 := p64 hK
    have hS := Nat.two_pow_pos K
    rw [wpX5_place]
    unfold wqX5_place
    refine pk_lt placed N (fun _ => ?_) (fun z => absurd z (by omega))
    refine wloop_n (fun i st => ∃ times' tally' sc' lc' lz' gr' fi', st = (nI (f + i), times', tally', sc', lc', lz', gr', fi') ∧ (∀ s, s < 64 → times' s = nI (t s)) ∧ GC n sc' (tbp n te id t (2 ^ K)) ∧ JX (2 ^ K) (WW K n te) (Dn (2 ^ K) N t (f + i)) gr' tally' fi') (2 ^ K - f) ⟨times, tally, sc, lc, lz, gr, fi, rfl, ht, hsc, hj⟩ ?_ ?_
    · rintro i st again hi ⟨times', tally', sc', lc', lz', gr', fi', rfl, ht', hsc', hj'⟩ hag
      generalize hse : f + i = s at *
      have hs : s < 2 ^ K := by omega
      have hz' : ∀ s', s < s' → t s' = 0 := fun s' h => hz s' (by omega)
      have h9s := h9 s
      have h90 := h9 0
      have hts : ∀ s', s' < 64 → tup t s s' ≤ 60 := fun s' _ => by have := h9 s'; unfold tup; split <;> omega
      have htotu : tot (tup t s) (2 ^ K) = ((placed + 1 : Nat) : Int) := by rw [tot_up hs, htot]; omega
      have hse2 : f + (i + 1) = s + 1 := by omega
      rw [hse2] at hag
      -- a SETTING that can't be tried more
      have skip : (∀ u, RV (2 ^ K) N u → (∀ i, i < s → u i = t i) → ¬ t s < u s) → again (nI (s + 1), times', tally', sc', lc', lz', gr', fi') := fun hno => hag _ ⟨_, _, _, _, _, _, _, rfl, ht', hsc', JX_cong (fun u => by
        rw [Dn_s]
        exact ⟨Or.inl, fun z => z.elim id (fun z => absurd z.2.2 (hno u z.1 z.2.1))⟩) hj'⟩
      -- one trial more here
      have J34 : ∀ most : Nat, most ≤ 9 → (t s < most → t s < 9 ∧ (s ≠ 0 → t s < t 0)) → (most ≤ t s → ∀ u, RV (2 ^ K) N u → (∀ i, i < s → u i = t i) → ¬ t s < u s) → wjX5_place_34 (nI N) (nI (2 ^ K)) signs (nI n) (nI placed) (wpX5_place d) (nI s) times' tally' sc' lc' lz' gr' fi' again (nI most) := by
        intro most hm9 hmore hskip
        unfold wjX5_place_34
        rw [nI_clamp (show s < 2 ^ 31 by omega), ht' s (by omega), nI_1, nI_1, nI_1]
        refine ⟨vp_in_nI (by omega) (by omega), pk_lt (t s) most (fun zm => ⟨vp_in_nI (by omega) (by omega), vp_in_nI (by omega) (by omega), ?_⟩) (fun zm => skip (hskip zm))⟩
        obtain ⟨hlt9, hlt0⟩ := hmore zm
        have htu : ∀ s', s' < 64 → upd times' s (nI (t s + 1)) s' = nI (tup t s s') := fun s' hs' => by
          by_cases e : s' = s
          · subst e; rw [pk_us, tup_s]
          · rw [pk_un e, tup_n e]; exact ht' s' hs'
        have hback : ∀ tm : Nat → Int32, (∀ s', s' < 64 → tm s' = nI (tup t s s')) → ∀ s', s' < 64 → upd tm s (tm s - 1) s' = nI (t s') := fun tm htm s' hs' => by
          by_cases e : s' = s
          · subst e; rw [pk_us, htm s' hs', tup_s]; exact nI_pred _
          · rw [pk_un e, htm s' hs', tup_n e]
        have fin : ∀ tm tl2 sc2 lc2 lz2 gr2 fi2, (∀ s', s' < 64 → tm s' = nI (tup t s s')) → GC n sc2 (tbp n te id t (2 ^ K)) → JX (2 ^ K) (WW K n te) (Dn (2 ^ K) N t (s + 1)) gr2 tl2 fi2 → wjX5_place_145 (nI s) again tm tl2 sc2 lc2 lz2 gr2 fi2 := by
          intro tm tl2 sc2 lc2 lz2 gr2 fi2 htm hsc2 hj2
          unfold wjX5_place_145
          rw [nI_clamp (by omega), nI_1]
          exact ⟨vp_in_nI (by omega) (by omega), vp_in_nI (by omega) (by omega), hag _ ⟨_, _, _, _, _, _, _, rfl, hback tm htm, hsc2, hj2⟩⟩
        have hmt : sgs te s n < 32 := Nat.lt_of_lt_of_le (sgs_lt te s n) (p5 n (by omega))
        refine pk_eq (placed + 1) N (fun zl => ?_) (fun zl => ?_)
        · -- a leaf
          unfold wpX2_copyFrom
          rw [hsg s hs]
          refine ⟨vp_in_nI (by omega) (by omega), wp_shift (d := 1) hn hmt (by decide) rfl hsc' (fun f2 hf2 => ?_)⟩
          refine wp_det (T := tbp n te id (tup t s) (2 ^ K)) hn1 hn (psd_tbp _ _ _ _ _) (fun i j => tbp_b (by rw [htotu]; omega) i j) rfl (GC_congr hf2 (fun a b ha hb => ?_)) (fun f3 => ?_)
          · rw [tbp_up hs ha (by omega), sgs_ch ha, sgs_ch (show b < n by omega), Int.one_mul]
          · have hvu : vpl (2 ^ K) N (tup t s) := ⟨fun s' => by
              have := h9 s'
              by_cases e : s' = s
              · subst e; rw [tup_s]; omega
              · rw [tup_n e]; exact this, fun s' hs' => by rw [tup_n (by omega)]; exact hz' s' (by omega), by rw [htotu, zl]⟩
            have hru : RV (2 ^ K) N (tup t s) := ⟨hvu, fun s' hs' => by
              have := hmx s' hs'
              by_cases e0 : s = 0
              · subst e0
                rw [tup_s]
                by_cases e : s' = 0
                · subst e; rw [tup_s]; exact Nat.le_refl _
                · rw [tup_n e]; omega
              · rw [tup_n (show (0 : Nat) ≠ s from fun z => e0 z.symm)]
                by_cases e : s' = s
                · subst e; rw [tup_s]; exact hlt0 e0
                · rw [tup_n e]; exact this⟩
            -- the only one beyond
            have honly : ∀ u, RV (2 ^ K) N u → (∀ i, i < s → u i = t i) → t s < u s → u = tup t s := fun u hru2 hpre hlt => by
              have e1 := tot_split (u := u) (f := s + 1) (S := 2 ^ K) (by omega)
              have e2 := tot_split (u := tup t s) (f := s + 1) (S := 2 ^ K) (by omega)
              have e3 : tot u (s + 1) = tot u s + (u s : Int) := rfl
              have e4 : tot (tup t s) (s + 1) = tot (tup t s) s + ((tup t s s : Nat) : Int) := rfl
              have e5 : tot u s = tot (tup t s) s := tot_congr (fun i hi => by rw [hpre i hi, tup_n (by omega)])
              have e6 : sm (2 ^ K - (s + 1)) (fun k => ((tup t s (s + 1 + k) : Nat) : Int)) = 0 := sm_zero (fun k _ => by rw [tup_n (by omega), hz' _ (by omega)]; rfl)
              have e7 := hru2.1.2.2
              have e8 : 0 ≤ sm (2 ^ K - (s + 1)) (fun k => (u (s + 1 + k) : Int)) := sm_nonneg _ _ (fun _ _ => Int.natCast_nonneg _)
              rw [tup_s] at e4
              have e9 : sm (2 ^ K - (s + 1)) (fun k => (u (s + 1 + k) : Int)) = 0 := by omega
              have e10 : u s = t s + 1 := by omega
              funext s'
              rcases Nat.lt_trichotomy s' s with h | h | h
              · rw [hpre s' h, tup_n (by omega)]
              · subst h; rw [tup_s, e10]
              · rw [tup_n (by omega), hz' s' h]
                rcases Nat.lt_or_ge s' (2 ^ K) with h2 | h2
                · have := sm_ge (n := 2 ^ K - (s + 1)) (f := fun k => (u (s + 1 + k) : Int)) (fun _ _ => Int.natCast_nonneg _) (i := s' - (s + 1)) (by omega)
                  rw [show s + 1 + (s' - (s + 1)) = s' by omega] at this
                  omega
                · exact hru2.1.2.1 s' h2
            refine wp_judge (N := N) hS h64 (fun v hv => ⟨det_nonneg (psd_tbp _ _ _ _ _), ?_⟩) (fun v hv => hv.1.1) hvu (fun hD => ?_) (fun v hv => ?_) hj' htu (fun tl' gr2 fi2 hj2 => ?_)
            · have := det_b hn (T := tbp n te id v (2 ^ K)) (fun i j => tbp_b (by rw [hv.2.2]; omega) i j)
              omega
            · obtain ⟨_, j, j1, j2, j3⟩ := hD
              rw [tup_n (by omega)] at j3; omega
            · obtain ⟨_, j, j1, j2, j3⟩ := hv
              exact ⟨j, fun i hi => by rw [j2 i hi, tup_n (by omega)], by rw [tup_n (by omega)]; exact j3⟩
            · refine fin _ _ _ _ _ _ _ htu hsc' (JX_cong (fun u => ?_) hj2)
              rw [Dn_s]
              constructor
              · rintro (h | h)
                · exact Or.inl h
                · subst h; exact Or.inr ⟨hru, fun i hi => tup_n (by omega), by rw [tup_s]; omega⟩
              · rintro (h | ⟨h1, h2, h3⟩)
                · exact Or.inl h
                · exact Or.inr (honly u h1 h2 h3)
        · -- deeper
          rw [hsg s hs]
          refine ⟨vp_in_nI (by omega) (by omega), wp_shift (d := 1) hn hmt (by decide) rfl hsc' (fun f2 hf2 => ?_)⟩
          refine wp_place hK hn1 hn hN hte hsg m d (by omega) (by omega) (tup t s) (placed + 1) s (by omega) hs (fun s' hs' => by rw [tup_n (by omega)]; exact hz' s' hs') (fun s' => by
            have := h9 s'
            by_cases e : s' = s
            · subst e; rw [tup_s]; omega
            · rw [tup_n e]; exact this) htotu (fun s' hs' => by
              have := hmx s' hs'
              by_cases e0 : s = 0
              · subst e0
                rw [tup_s]
                by_cases e : s' = 0
                · subst e; rw [tup_s]; exact Nat.le_refl _
                · rw [tup_n e]; omega
              · rw [tup_n (show (0 : Nat) ≠ s from fun z => e0 z.symm)]
                by_cases e : s' = s
                · subst e; rw [tup_s]; exact hlt0 e0
                · rw [tup_n e]; exact this) _ _ _ _ _ _ _ _ htu (GC_congr hf2 (fun a b ha hb => by rw [tbp_up hs ha (by omega), sgs_ch ha, sgs_ch (show b < n by omega), Int.one_mul])) (JX_cong (fun u => ?_) hj') (fun tm2 tl2 sc2 lc2 lz2 gr2 fi2 h1 h2 h3 => ?_)
          · constructor
            · rintro ⟨h, j, j1, j2, j3⟩
              exact ⟨h, j, j1, fun i hi => by rw [j2 i hi, tup_n (by omega)], by rw [tup_n (by omega)]; exact j3⟩
            · rintro ⟨h, j, j1, j2, j3⟩
              exact ⟨h, j, j1, fun i hi => by rw [j2 i hi, tup_n (by omega)], by rw [tup_n (show j ≠ s by omega)] at j3; exact j3⟩
          · rw [show (-1 : Int32) = iI (-1) from rfl]
            refine ⟨vp_in_nI (by omega) (by omega), wp_shift (d := -1) hn hmt (by decide) rfl h2 (fun f4 hf4 => ?_)⟩
            refine fin tm2 tl2 f4 lc2 lz2 gr2 fi2 h1 (GC_congr hf4 (fun a b ha hb => ?_)) (JX_cong (D := Dn2 (2 ^ K) N (tup t s) s) (fun u => ?_) h3)
            · rw [tbp_up hs ha (by omega), sgs_ch ha, sgs_ch (show b < n by omega)]
              generalize ch (te a) s = p
              generalize ch (te b) s = q
              generalize tbp n te id t (2 ^ K) a b = r
              grind
            · rw [Dn_s]
              constructor
              · rintro (⟨h, j, j1, j2, j3⟩ | ⟨h1, h2, h3⟩)
                · exact Or.inl ⟨h, j, j1, fun i hi => by rw [j2 i hi, tup_n (by omega)], by rw [tup_n (show j ≠ s by omega)] at j3; exact j3⟩
                · exact Or.inr ⟨h1, fun i hi => by rw [h2 i hi, tup_n (by omega)], by rw [tup_s] at h3; omega⟩
              · rintro (⟨h, j, j1, j2, j3⟩ | ⟨h1, h2, h3⟩)
                · exact Or.inl ⟨h, j, j1, fun i hi => by rw [j2 i hi, tup_n (by omega)], by rw [tup_n (by omega)]; exact j3⟩
                · exact Or.inr ⟨h1, fun i hi => by rw [h2 i hi, tup_n (by omega)], by rw [tup_s]; omega⟩
      rw [wbX5_place_11]
      refine pk_le (2 ^ K) s (fun z => absurd z (by omega)) (fun _ => pk_eq s 0 (fun z0 => ?_) (fun z0 => ?_))
      · refine J34 9 (Nat.le_refl _) (fun h => ⟨h, fun z => absurd z0 z⟩) (fun h u hu _ hlt => ?_)
        have := hu.1.1 s; omega
      · rw [ht' 0 (by omega)]
        refine J34 (t 0) (by omega) (fun h => ⟨by omega, fun _ => h⟩) (fun h u hu hpre hlt => ?_)
        have h1 := hu.2 s hs
        rw [hpre 0 (by omega)] at h1
        omega
    · rintro st again ⟨times', tally', sc', lc', lz', gr', fi', rfl, ht', hsc', hj'⟩
      rw [show f + (2 ^ K - f) = 2 ^ K by omega] at hj' ⊢
      rw [wbX5_place_11]
      refine pk_le (2 ^ K) (2 ^ K) (fun _ => hk _ _ _ _ _ _ _ ht' hsc' (JX_cong (fun u => ?_) hj')) (fun z => absurd z (by omega))
      constructor
      · rintro ⟨h, j, j1, j2, j3⟩
        rcases Nat.lt_trichotomy j f with e | e | e
        · exact Or.inl ⟨h, j, e, j2, j3⟩
        · subst e; exact Or.inr ⟨h, j2, by omega⟩
        · exact Or.inr ⟨h, fun i hi => j2 i (by omega), by rw [j2 f e]; exact Nat.le_refl _⟩
      · rintro (⟨h, j, j1, j2, j3⟩ | ⟨h, h1, h2⟩)
        · exact ⟨h, j, by omega, j2, j3⟩
        · refine ⟨h, ?_⟩
          -- the first place where u is above t
          have hne : ∃ j, j < 2 ^ K ∧ u j ≠ t j := by
            refine Classical.byContradiction (fun hno => ?_)
            have e : tot u (2 ^ K) = tot t (2 ^ K) := tot_congr (fun s hs => Classical.byContradiction (fun z => hno ⟨s, hs, z⟩))
            have := h.1.2.2
            omega
          have first : ∀ m, (∃ j, j < m ∧ u j ≠ t j) → ∃ j, j < m ∧ u j ≠ t j ∧ ∀ i, i < j → u i = t i := by
            intro m
            induction m with
            | zero => rintro ⟨j, h, _⟩; exact absurd h (Nat.not_lt_zero _)
            | succ m ih =>
              rintro ⟨j, hj1, hj2⟩
              by_cases c : ∃ j, j < m ∧ u j ≠ t j
              · obtain ⟨j, a1, a2, a3⟩ := ih c; exact ⟨j, by omega, a2, a3⟩
              · have e : j = m := by
                  rcases Nat.lt_or_ge j m with h | h
                  · exact absurd ⟨j, h, hj2⟩ c
                  · omega
                subst e
                exact ⟨j, hj1, hj2, fun i hi => Classical.byContradiction (fun z => c ⟨i, hi, z⟩)⟩
          obtain ⟨j, a1, a2, a3⟩ := first _ hne
          refine ⟨j, a1, a3, ?_⟩
          rcases Nat.lt_trichotomy j f with e | e | e
          · exact absurd (h1 j e) a2
          · subst e; omega
          · rw [hz j e] at a2 ⊢; omega
