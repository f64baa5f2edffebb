/-! the class's find; the reference's way through all PLANS -/
theorem wloop_i {S : Type} {body : S → (S → Prop) → Prop} (I : Nat → S → Prop) {m0 : Nat} {s0 : S} (h0 : I m0 s0) (hs : ∀ m s (again : S → Prop), I m s → (∀ m' s', m' < m → I m' s' → again s') → body s again) : wloop body s0 := by
  have key : ∀ n m s, m < n → I m s → wl body n s := by
    intro n
    induction n with
    | zero => intro m s h; exact absurd h (Nat.not_lt_zero _)
    | succ n ih =>
      intro m s hm hI
      exact hs m s _ hI (fun m' s' hlt hI' => ih m' s' (by omega) hI')
  exact ⟨m0 + 1, key _ m0 s0 (by omega) h0⟩
theorem det_z {n : Nat} (hn : 1 ≤ n) {T : Nat → Nat → Int} (h : ∀ i j, i < n → j < n → T i j = 0) : det n T = 0 := by
  obtain ⟨m, rfl⟩ : ∃ m, n = m + 1 := ⟨n - 1, by omega⟩
  rw [det]
  exact sm_zero (fun p hp => by rw [h m p (by omega) hp]; simp)
theorem tot_0 {u : Nat → Nat} {S : Nat} (h : tot u S = 0) : ∀ s, s < S → u s = 0 := fun s hs => by
  have := tot_ge u hs; omega
/-- the class's find -/
theorem wp_findP {K n : Nat} (hK1 : 1 ≤ K) (hK : K ≤ 6) (hn1 : 1 ≤ n) (hn : n ≤ 5) {te : Nat → Nat} (hte : ∀ i, i < n → te i < 2 ^ K) (p : PS) (hI : PSI p) {fc tc : Int32} {terms : Nat → Int32} (hfc : fc = nI K) (htc : tc = nI n) (ht : ∀ i, i < n → terms i = nI (te i)) {N : Nat} (hN : N ≤ 40) {k : (Nat → Int32) → Int32 → Int32 → Int32 → Int32 → (Nat → Int32) → (Nat → Int32) → (Nat → Int32) → (Nat → Int32) → (Nat → Int64) → Int32 → (Nat → Int64) → Int32 → Int64 → (Nat → Int32) → Int32 → Prop}
    (h : ∀ c0 c1 c2 c3 c4 c5 c6 c7 c8 c9 c10 c11 c12 c13 c14 c15, (∀ a2 a3 a5 b2 b3 b5 : Int32, ∀ a4 b4 : Int64, ∀ a6 b6 : Nat → Int32, PSI ((c1, c2, c3, c4, c13, c15, c0, c5, c6, c7, c8, c14), (c10, a2, a4, c9, a6), (c12, b2, b4, c11, b6))) → PR (2 ^ K) N (WW K n te) c15 c14 → k c0 c1 c2 c3 c4 c5 c6 c7 c8 c9 c10 c11 c12 c13 c14 c15) :
    wpX5_find p.1.2.2.2.2.2.2.1 p.1.1 p.1.2.1 p.1.2.2.1 p.1.2.2.2.1 p.1.2.2.2.2.2.2.2.1 p.1.2.2.2.2.2.2.2.2.1 p.1.2.2.2.2.2.2.2.2.2.1 p.1.2.2.2.2.2.2.2.2.2.2.1 p.2.1.2.2.2.1 p.2.1.1 p.2.2.2.2.2.1 p.2.2.1 p.1.2.2.2.2.1 p.1.2.2.2.2.2.2.2.2.2.2.2 p.1.2.2.2.2.2.1 fc tc terms (nI N) k := by
  have h64 := p64 hK
  have hS := Nat.two_pow_pos K
  have hte6 : ∀ i, i < n → te i < 64 := fun i hi => by have := hte i hi; omega
  -- a search done anew
  have fresh : ((0 : Int32) = 0) → wpX5_noteAsked p.1.2.2.2.2.2.2.1 p.1.1 p.1.2.1 p.1.2.2.1 p.1.2.2.2.1 p.1.2.2.2.2.2.2.2.1 fc tc terms (nI N) (fun (t_askedTerms_5 : (Nat → Int32)) (t_askedTermCount_6 : Int32) (t_askedFactors_7 : Int32) (t_trials_8 : Int32) (t_settings_9 : Int32) (t_signs_10 : (Nat → Int32)) => wpX5_countPlans t_trials_8 t_settings_9 p.1.2.2.2.2.2.2.2.2.2.1 (fun (r_12 : Int32) (t_ways_11 : (Nat → Int32)) => ((r_12 = 0) → (wjX5_find_42 p.1.2.2.2.2.1 p.1.2.2.2.2.2.2.2.2.1 p.1.2.2.2.2.2.2.2.2.2.2.1 p.2.1.1 p.2.1.2.2.2.1 p.2.2.1 p.2.2.2.2.2.1 p.1.2.2.2.2.2.2.2.2.2.2.2 k t_askedTerms_5 t_askedTermCount_6 t_askedFactors_7 t_trials_8 t_settings_9 t_signs_10 t_ways_11 r_12 )) ∧ (¬ (r_12 = 0) → (((r_12 ≤ (20000 : Int32)) → (wpX2_empty p.2.1.2.2.2.1 p.2.1.1 tc (fun (t_sums_cells_16 : (Nat → Int64)) (t_sums_size_17 : Int32) => ((nI N = 0) → (wpX5_judge t_settings_9 (fun _ => (0 : Int32)) (fun _ => (0 : Int32)) (-1 : Int64) p.1.2.2.2.2.2.2.2.2.2.2.2 (0 : Int64) (fun (t_tally_27 : (Nat → Int32)) (t_greatest_28 : Int64) (t_first_29 : (Nat → Int32)) => wpX5_countBests t_settings_9 t_tally_27 (fun (r_30 : Int32) => k t_askedTerms_5 t_askedTermCount_6 t_askedFactors_7 t_trials_8 t_settings_9 t_signs_10 (fun _ => (0 : Int32)) t_ways_11 t_tally_27 t_sums_cells_16 t_sums_size_17 p.2.2.2.2.2.1 p.2.2.1 t_greatest_28 t_first_29 r_30)))) ∧ (¬ (nI N = 0) → (wpX5_place 41 t_trials_8 t_settings_9 t_signs_10 (fun _ => (0 : Int32)) (fun _ => (0 : Int32)) t_sums_cells_16 t_sums_size_17 p.2.2.2.2.2.1 p.2.2.1 (-1 : Int64) p.1.2.2.2.2.2.2.2.2.2.2.2 (0 : Int32) (0 : Int32) (fun (t_times_19 : (Nat → Int32)) (t_tally_20 : (Nat → Int32)) (t_sums_cells_21 : (Nat → Int64)) (t_leaf_cells_22 : (Nat → Int64)) (t_leaf_size_23 : Int32) (t_greatest_24 : Int64) (t_first_25 : (Nat → Int32)) => wpX5_countBests t_settings_9 t_tally_20 (fun (r_26 : Int32) => k t_askedTerms_5 t_askedTermCount_6 t_askedFactors_7 t_trials_8 t_settings_9 t_signs_10 t_times_19 t_ways_11 t_tally_20 t_sums_cells_21 t_sums_size_17 t_leaf_cells_22 t_leaf_size_23 t_greatest_24 t_first_25 r_26))))))) ∧ (¬ (r_12 ≤ (20000 : Int32)) → (wjX5_find_42 p.1.2.2.2.2.1 p.1.2.2.2.2.2.2.2.2.1 p.1.2.2.2.2.2.2.2.2.2.2.1 p.2.1.1 p.2.1.2.2.2.1 p.2.2.1 p.2.2.2.2.2.1 p.1.2.2.2.2.2.2.2.2.2.2.2 k t_askedTerms_5 t_askedTermCount_6 t_askedFactors_7 t_trials_8 t_settings_9 t_signs_10 t_ways_11 r_12 )))))) := by
    intro _
    refine wp_note hK hn hte6 hfc htc ht (fun sg' hsg => wp_countX h64 hN (fun w wa hw hwb => ?_))
    have put : ∀ c4 c5 c6 c7 c8 c9 c10 c11 c12 c13 c14 c15, PR (2 ^ K) N (WW K n te) c15 c14 → k terms tc fc (nI N) c4 c5 c6 c7 c8 c9 c10 c11 c12 c13 c14 c15 := fun c4 c5 c6 c7 c8 c9 c10 c11 c12 c13 c14 c15 hPR => h _ _ _ _ _ _ _ _ _ _ _ _ _ _ _ _ (fun _ _ _ _ _ _ _ _ _ _ => Or.inr ⟨K, n, te, N, ⟨hK1, hK⟩, ⟨hn1, hn⟩, hte, hN, hfc, htc, ht, rfl, hPR⟩) hPR
    refine pk_eq w 0 (fun z => ?_) (fun z => pk_le w 20000 (fun z2 => ?_) (fun z2 => ?_))
    · have hw0 : wy (2 ^ K) N = 0 := by omega
      unfold wjX5_find_42
      subst z
      exact ⟨fun _ => put _ _ _ _ _ _ _ _ _ _ _ _ ⟨fun z => by omega, fun _ => rfl, fun z => by omega⟩, fun z => absurd rfl z⟩
    · have hwe : w = wy (2 ^ K) N := by omega
      have hw1 : 0 < wy (2 ^ K) N := by omega
      have hw2 : wy (2 ^ K) N ≤ 20000 := by omega
      unfold wpX2_empty
      have hz0 : GC n (fun _ => (0 : Int64)) (tbp n te id (fun _ => 0) (2 ^ K)) := fun i j hi hj => by
        unfold tbp
        rw [if_pos ⟨hi, by omega⟩, sm_zero (fun s _ => by simp)]; rfl
      rw [htc]
      refine pk_eq N 0 (fun z3 => ?_) (fun z3 => ?_)
      · subst z3
        have hW0 : WW K n te (fun _ => 0) = 0 := det_z hn1 (fun i j hi hj => by
          unfold tbp
          rw [if_pos ⟨hi, hj⟩, sm_zero (fun s _ => by simp)])
        have hv0 : vpl (2 ^ K) 0 (fun _ => 0) := ⟨fun _ => Nat.zero_le 9, fun _ _ => rfl, sm_zero (fun _ _ => rfl)⟩
        rw [show (0 : Int64) = lI (WW K n te (fun _ => 0)) by rw [hW0]; rfl]
        refine wp_judge (N := 0) (W := WW K n te) (D := fun _ => False) hS h64 (fun v hv => ⟨det_nonneg (psd_tbp _ _ _ _ _), ?_⟩) (fun v hv => hv.elim) hv0 (fun z => z) (fun v hv => hv.elim) (Or.inl ⟨fun _ z => z, rfl, fun _ _ => rfl⟩) (fun _ _ => rfl) (fun tl' gr' fi' hj => ?_)
        · have := det_b hn (T := tbp n te id v (2 ^ K)) (fun i j => tbp_b (by rw [hv.2.2]; omega) i j)
          unfold WW; omega
        · refine fin_cb hK hn1 hn hN hte6 hw1 hw2 (JX_cong (fun u => ?_) hj) (fun bc hPR => by rw [← htc]; exact put _ _ _ _ _ _ _ _ _ _ _ _ hPR)
          constructor
          · rintro (z | z)
            · exact z.elim
            · subst z; exact ⟨hv0, fun _ _ => Nat.le_refl _⟩
          · intro z
            refine Or.inr (funext (fun s => ?_))
            rcases Nat.lt_or_ge s (2 ^ K) with c | c
            · exact tot_0 z.1.2.2 s c
            · exact z.1.2.1 s c
      · refine wp_place hK hn1 hn hN hte6 hsg N 41 (by omega) (by omega) (fun _ => 0) 0 0 (by omega) hS (fun _ _ => rfl) (fun _ => Nat.zero_le _) (sm_zero (fun _ _ => rfl)) (fun _ _ => Nat.le_refl _) _ _ _ _ _ _ _ _ (fun _ _ => rfl) hz0 (Or.inl ⟨fun u z => by obtain ⟨_, j, j1, _⟩ := z; exact absurd j1 (Nat.not_lt_zero _), rfl, fun _ _ => rfl⟩) (fun tm tl sc lc lz gr fi _ _ hj => ?_)
        refine fin_cb hK hn1 hn hN hte6 hw1 hw2 (JX_cong (fun u => ?_) hj) (fun bc hPR => by rw [← htc]; exact put _ _ _ _ _ _ _ _ _ _ _ _ hPR)
        constructor
        · rintro (⟨_, j, j1, _⟩ | ⟨z, _⟩)
          · exact absurd j1 (Nat.not_lt_zero _)
          · exact z
        · intro z; exact Or.inr ⟨z, fun i hi => absurd hi (Nat.not_lt_zero _), Nat.zero_le _⟩
    · have hw3 : 20000 < wy (2 ^ K) N := by omega
      unfold wjX5_find_42
      exact ⟨fun z3 => absurd z3 (nI_ne0 (by omega) (by omega)), fun _ => put _ _ _ _ _ _ _ _ _ _ _ _ ⟨fun _ => rfl, fun z => by omega, fun _ z => by omega⟩⟩
  unfold wpX5_find
  refine ⟨fun z => absurd z (nI_pos (by omega)), fun _ => ⟨fun z => absurd z (show ¬ nI 40 < nI N from nI_nlt (by omega) (by omega)), fun _ => ?_⟩⟩
  unfold wpX5_isAnswered
  refine ⟨fun e1 => ⟨fun e2 => ⟨fun e3 => ?_, fun _ => ⟨fresh, fun z => absurd rfl z⟩⟩, fun _ => ⟨fresh, fun z => absurd rfl z⟩⟩, fun _ => ⟨fresh, fun z => absurd rfl z⟩⟩
  -- the same question: are the TERMS the same?
  rcases hI with hm1 | ⟨K', n', te', N', hK', hn', hte', hN', b1, b2, b3, b4, b5⟩
  · rw [← e1] at hm1; exact absurd hm1 (nI_m1 (by omega))
  · have eK : K' = K := (nI_eq (by omega) (by omega)).1 (by rw [← b1, ← e2, hfc])
    have en : n' = n := (nI_eq (by omega) (by omega)).1 (by rw [← b2, ← e3, htc])
    have eN : N' = N := (nI_eq (by omega) (by omega)).1 (by rw [← b4, ← e1])
    subst eK en eN
    rw [b2]
    refine wloop_n (fun i st => st = nI i ∧ ∀ j, j < i → te' j = te j) n' ⟨rfl, fun j hj => absurd hj (Nat.not_lt_zero _)⟩ ?_ ?_
    · rintro i st again hi ⟨rfl, hf⟩ hag
      have h1 := hte i hi
      have h2 := hte' i hi
      rw [wbX5_isAnswered_34]
      refine pk_le n' i (fun z => absurd z (by omega)) (fun _ => ⟨vp_in_nI (by omega) (by omega), vp_in_nI (by omega) (by omega), ?_⟩)
      rw [nI_clamp (by omega), b3 i hi, ht i hi, nI_1]
      refine pk_eq (te' i) (te i) (fun z => hag _ ⟨rfl, fun j hj => ?_⟩) (fun _ => ⟨fresh, fun z => absurd rfl z⟩)
      by_cases e : j = i
      · subst e; exact z
      · exact hf j (by omega)
    · rintro st again ⟨rfl, hf⟩
      rw [wbX5_isAnswered_34]
      refine pk_le n' n' (fun _ => ⟨fun z => absurd z (by decide), fun _ => ?_⟩) (fun z => absurd z (by omega))
      have eW : WW K' n' te' = WW K' n' te := by
        funext u
        refine det_congr (fun i j hi hj => ?_)
        unfold tbp
        rw [hf i hi, hf j hj]
      rw [eW] at b5
      exact h _ _ _ _ _ _ _ _ _ _ _ _ _ _ _ _ (fun _ _ _ _ _ _ _ _ _ _ => Or.inr ⟨K', n', te', N', hK', hn', hte', hN', b1, rfl, b3, b4, by rw [eW]; exact b5⟩) b5
/-- how many PLANS, as the reference has it -/
theorem wp_few {K : Nat} (hK : K ≤ 6) {g : Nat → Int32} (hg : g 0 = nI K) {N : Nat} (hN : N ≤ 40) {ways : Nat → Int32} {k : Int32 → (Nat → Int32) → Prop} (h1 : ∀ wa, wy (2 ^ K) N ≤ 20000 → wa N = nI (wy (2 ^ K) N) → k 1 wa) (h0 : ∀ wa, 20000 < wy (2 ^ K) N → k 0 wa) : wpX7_areFew g ways (nI N) k := by
  have h64 := p64 hK
  unfold wpX7_areFew
  refine ⟨fun z => absurd z (nI_pos (by omega)), fun _ => ⟨fun _ => ?_, fun z => absurd (show nI N ≤ nI 40 from nI_le hN (by omega)) z⟩⟩
  refine wloop_n (fun i st => ∃ wa, st = (nI i, wa) ∧ ∀ r, r < i → wa r = nI (wy 0 r)) 41 ⟨ways, rfl, fun r hr => absurd hr (Nat.not_lt_zero _)⟩ ?_ ?_
  · rintro i st again hi ⟨wa, rfl, hwa⟩ hag
    rw [wbX7_areFew_14, nI_clamp (by omega), nI_1]
    refine pk_lt 40 i (fun z => absurd z (by omega)) (fun _ => pk_eq i 0 (fun z => ⟨vp_in_nI (by omega) (by omega), hag _ ⟨_, rfl, fun r hr => ?_⟩⟩) (fun z => ⟨vp_in_nI (by omega) (by omega), hag _ ⟨_, rfl, fun r hr => ?_⟩⟩))
    · rw [show r = i by omega, pk_us, z]; rfl
    · by_cases e : r = i
      · subst e; rw [pk_us, wy, if_neg z]; rfl
      · rw [pk_un e]; exact hwa r (by omega)
  · rintro st again ⟨wa, rfl, hwa⟩
    rw [wbX7_areFew_14]
    refine pk_lt 40 41 (fun _ => ?_) (fun z => absurd z (by omega))
    refine wloop_n (fun s st => ∃ wa, st = (nI s, wa) ∧ ∀ r, r ≤ N → wa r = nI (wy s r)) (2 ^ K) ⟨wa, rfl, fun r hr => hwa r (by omega)⟩ ?_ ?_
    · rintro s st again2 hs ⟨wa, rfl, hwa⟩ hag2
      rw [wbX7_areFew_43]
      refine wp_settM (by omega) hg (pk_le (2 ^ K) s (fun z => absurd z (by omega)) (fun _ => ?_))
      refine wloop_n (fun j st => ∃ wa, ((j ≤ N ∧ st = (nI (N - j), wa)) ∨ (j = N + 1 ∧ st = (-1, wa))) ∧ ∀ r, r ≤ N → wa r = nI (if N < r + j then wy (s + 1) r else wy s r)) (N + 1) ⟨wa, Or.inl ⟨by omega, rfl⟩, fun r hr => by rw [if_neg (by omega)]; exact hwa r hr⟩ ?_ ?_
      · rintro j st again3 hj ⟨wa, hst, hwa⟩ hag3
        rcases hst with ⟨hj2, rfl⟩ | ⟨e, _⟩
        · generalize hn : N - j = n at *
          rw [wbX7_areFew_53]
          refine ⟨fun z => absurd z (nI_pos (by omega)), fun _ => ?_⟩
          have put : ∀ c, c = wy (s + 1) n → again3 (nI n + (-1), upd wa ((nI n).toNatClampNeg) (nI c)) := fun c hc => by
            rw [nI_clamp (by omega)]
            refine hag3 _ ⟨upd wa n (nI c), ?_, fun r hr => ?_⟩
            · rcases Nat.eq_zero_or_pos n with e | e
              · subst e; exact Or.inr ⟨by omega, rfl⟩
              · refine Or.inl ⟨by omega, ?_⟩
                rw [show n = (N - (j + 1)) + 1 by omega, pk_m1]
            · by_cases e : r = n
              · subst e; rw [pk_us, if_pos (by omega), hc]
              · rw [pk_un e, hwa r hr]
                by_cases c2 : N < r + j
                · rw [if_pos c2, if_pos (by omega)]
                · rw [if_neg c2, if_neg (by omega)]
          have hend : min 20001 (wys (wy s) n (min 10 (n + 1))) = wy (s + 1) n := by
            rw [wy]
            congr 1
            rcases Nat.lt_or_ge n 9 with h | h
            · rw [Nat.min_eq_right (by omega), show 10 = n + 1 + (9 - n) by omega, wys_end]
            · rw [Nat.min_eq_left (by omega)]
          refine wloop_n (fun i st => st = (nI (min 20001 (wys (wy s) n i)), nI i)) (min 10 (n + 1)) rfl ?_ ?_
          · rintro i st again4 hi rfl hag4
            have hw := wy_le s (n - i)
            rw [wbX7_areFew_63, pk_sub (show i ≤ n by omega), nI_clamp (show n - i < 2 ^ 31 by omega), hwa (n - i) (by omega), if_neg (by omega), nI_add, nI_1]
            refine pk_lt 9 i (fun z => absurd z (by omega)) (fun _ => pk_lt n i (fun z => absurd z (by omega)) (fun _ => ⟨vp_in_nI (by omega) (by omega), pk_le (min 20001 (wys (wy s) n i) + wy s (n - i)) 20000 (fun z => ⟨vp_in_nI (by omega) (by omega), hag4 _ ?_⟩) (fun z => hag4 _ ?_)⟩))
            · rw [wys, if_pos (by omega)]
              congr 2
              omega
            · rw [wys, if_pos (by omega)]
              show (nI 20001, _) = _
              congr 2
              omega
          · rintro st again4 rfl
            rw [wbX7_areFew_63]
            refine pk_lt 9 (min 10 (n + 1)) (fun _ => ⟨vp_in_nI (by omega) (by omega), put _ hend⟩) (fun z => pk_lt n (min 10 (n + 1)) (fun _ => ⟨vp_in_nI (by omega) (by omega), put _ hend⟩) (fun z2 => absurd z2 (by omega)))
        · omega
      · rintro st again3 ⟨wa, hst, hwa⟩
        rcases hst with ⟨hj2, _⟩ | ⟨_, rfl⟩
        · omega
        · rw [wbX7_areFew_53]
          refine ⟨fun _ => ?_, fun z => absurd (by decide) z⟩
          rw [nI_1]
          exact hag2 _ ⟨wa, rfl, fun r hr => by rw [hwa r hr, if_pos (by omega)]⟩
    · rintro st again2 ⟨wa, rfl, hwa⟩
      have hw := wy_le (2 ^ K) N
      rw [wbX7_areFew_43, nI_clamp (by omega), hwa N (Nat.le_refl _)]
      exact wp_settM (by omega) hg (pk_le (2 ^ K) (2 ^ K) (fun _ => ⟨vp_in_nI (by omega) (by omega), pk_lt 20000 (wy (2 ^ K) N) (fun z => h0 _ z) (fun z => h1 _ z (hwa N (Nat.le_refl _)))⟩) (fun z => absurd z (by omega)))
