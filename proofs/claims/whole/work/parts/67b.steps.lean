/-! the steps: term, drop, plan, clear -/
theorem wp_hasTerm {n : Nat} (hn : n ≤ 5) {te : Nat → Nat} (hte : ∀ i, i < n → te i < 64) {tc : Int32} {terms : Nat → Int32} (htc : tc = nI n) (ht : ∀ i, i < n → terms i = nI (te i)) {j : Nat} (hj : j < 64) {k : Int32 → Prop} (h1 : (∃ i, i < n ∧ te i = j) → k 1) (h0 : (∀ i, i < n → te i ≠ j) → k 0) : wpX1_hasTerm tc terms (nI j) k := by
  subst htc
  unfold wpX1_hasTerm
  refine wloop_n (fun i st => st = nI i ∧ ∀ a, a < i → te a ≠ j) n ⟨rfl, fun a ha => absurd ha (Nat.not_lt_zero _)⟩ ?_ ?_
  · rintro i st again hi ⟨rfl, hf⟩ hag
    rw [wbX1_hasTerm_2]
    refine pk_le n i (fun z => absurd z (by omega)) (fun _ => ⟨vp_in_nI (by omega) (by omega), ?_⟩)
    rw [nI_clamp (by omega), ht i hi]
    have := hte i hi
    refine pk_eq (te i) j (fun z => h1 ⟨i, hi, z⟩) (fun z => ?_)
    rw [nI_1]
    refine hag _ ⟨rfl, fun a ha => ?_⟩
    by_cases e : a = i
    · subst e; exact z
    · exact hf a (by omega)
  · rintro st again ⟨rfl, hf⟩
    rw [wbX1_hasTerm_2]
    exact pk_le n n (fun _ => h0 hf) (fun z => absurd z (by omega))
theorem iI_le {a b : Int} (ha : a.natAbs < 2147483648) (hb : b.natAbs < 2147483648) : iI a ≤ iI b ↔ a ≤ b := by
  rw [Int32.le_iff_toInt_le, iI_T (by omega) (by omega), iI_T (by omega) (by omega)]
theorem iI_lt {a b : Int} (ha : a.natAbs < 2147483648) (hb : b.natAbs < 2147483648) : iI a < iI b ↔ a < b := by
  rw [Int32.lt_iff_toInt_lt, iI_T (by omega) (by omega), iI_T (by omega) (by omega)]
theorem iI_inj {a b : Int} (ha : a.natAbs < 2147483648) (hb : b.natAbs < 2147483648) : iI a = iI b ↔ a = b := by
  refine ⟨fun h => ?_, fun h => by rw [h]⟩
  have h2 := congrArg Int32.toInt h
  rwa [iI_T (by omega) (by omega), iI_T (by omega) (by omega)] at h2
theorem tot_congr {f g : Nat → Nat} {n : Nat} (h : ∀ s, s < n → f s = g s) : tot f n = tot g n := sm_congr (fun i hi => by rw [h i hi])
theorem tot_nonneg (f : Nat → Nat) (n : Nat) : 0 ≤ tot f n := sm_nonneg _ _ (fun _ _ => Int.natCast_nonneg _)
theorem tot_upd (f : Nat → Nat) (m : Nat) {j : Nat} : ∀ {n : Nat}, j < n → tot (fun s => if s = j then m else f s) n = tot f n - f j + m
  | 0, h => absurd h (Nat.not_lt_zero _)
  | n + 1, h => by
    unfold tot
    rw [sm, sm]
    dsimp only
    by_cases e : j = n
    · subst e
      rw [if_pos rfl, sm_congr (f := fun s => (((if s = j then m else f s) : Nat) : Int)) (g := fun s => (f s : Int)) (fun i hi => by rw [if_neg (show ¬ i = j by omega)])]
      omega
    · have ih := tot_upd f m (j := j) (n := n) (by omega)
      unfold tot at ih
      rw [ih, if_neg (show ¬ n = j by omega)]
      omega
theorem tot_ge (f : Nat → Nat) : ∀ {n j : Nat}, j < n → (f j : Int) ≤ tot f n
  | 0, _, h => absurd h (Nat.not_lt_zero _)
  | n + 1, j, h => by
    unfold tot
    rw [sm]
    by_cases e : j = n
    · subst e; have := tot_nonneg f j; unfold tot at this; omega
    · have := tot_ge f (n := n) (j := j) (by omega); unfold tot at this; omega
theorem wp_trials {ti : Nat → Nat} {g : Nat → Int32} (hg : ∀ s, s < 64 → g (7 + s) = nI (ti s)) {k : Int32 → Prop} (h : k (iI (tot ti 64))) : wpX7_trials g k := by
  unfold wpX7_trials
  refine wloop_n (fun i st => st = (iI (tot ti i), nI i)) 64 rfl ?_ ?_
  · rintro i st again hi rfl hag
    rw [wbX7_trials_4]
    refine pk_le 64 i (fun z => absurd z (by omega)) (fun _ => ?_)
    rw [show (7 : Int32) = nI 7 from rfl, nI_add, nI_clamp (by omega), hg i hi, nI_iI (ti i), iI_add, nI_1]
    exact ⟨vp_in_nI (by omega) (by omega), hag _ rfl⟩
  · rintro st again rfl
    rw [wbX7_trials_4]
    exact pk_le 64 64 (fun _ => h) (fun z => absurd z (by omega))
theorem p64 {K : Nat} (h : K ≤ 6) : 2 ^ K ≤ 64 := (shl_tab K (by omega)).2.1
theorem lb_step_1 (x : XS) (y : MS) (a1 : Int32) (h : LInv x y) : ∃ bud, bud ≤ 49152 ∧ wpL_1 x y a1 bud (fun x9 y9 => LInv x9 y9 ∧ pot x + bud ≤ pot x9) := by
  refine ⟨0, by omega, ?_⟩
  obtain ⟨hB, hH, hP, hC⟩ := h
  obtain ⟨K, n, te, ti, wo, mk, c, pl, rd, hV, hD, hbg⟩ := BR_open hB
  have hV' := hV
  obtain ⟨⟨hK1, hK6⟩, ⟨hn1, hn5⟩, hte, hdi, hti, htz, htot, hwo, hin, hmk, hc, hpl, hrd⟩ := hV'
  have hD' := hD
  obtain ⟨d1, d2, d3, d4, d5, d6, d7, d8, d9, d10, d11⟩ := hD'
  have h64 := p64 hK6
  unfold wpL_1 wpX6_term
  refine wp_hasX (by omega) d1 a1 (fun j hj ea => ?_) (fun hno => ?_)
  · subst ea
    refine ⟨fun z => absurd z (by decide), fun _ => wp_hasTerm hn5 (fun i hi => by have := hte i hi; omega) d2 d6 (by omega) (fun hex => ?_) (fun hno => ?_)⟩
    · refine ⟨fun z => absurd z (by decide), fun _ => ?_⟩
      unfold wpM_1 wpX7_term
      refine hbg _ (fun g b hb hG => ?_)
      have hR : RR x.1 g := ⟨K, n, te, ti, wo, mk, c, pl, rd, hV, hD, hG⟩
      obtain ⟨g1, g2, g3, g4, g5, g6, g7, g8, g9⟩ := hG
      refine wp_isM (by omega) g1 _ (fun j' hj' e => ?_) (fun hn => absurd rfl (hn j hj))
      refine ⟨fun z => absurd z (by decide), fun _ => ?_⟩
      rw [g2]
      refine pk_eq n 5 (fun z => ⟨fun _ => ⟨⟨Or.inl ⟨hb, hR⟩, hH, hP, hC⟩, Nat.le_refl _⟩, fun z => z rfl⟩) (fun z => ?_)
      refine wloop_n (fun i st => st = nI i ∧ ∀ a, a < i → te a ≠ j) n ⟨rfl, fun a ha => absurd ha (Nat.not_lt_zero _)⟩ ?_ ?_
      · rintro i st again hi ⟨rfl, hf⟩ hag
        rw [wbX7_term_31, g2]
        refine pk_le n i (fun z => absurd z (by omega)) (fun _ => ?_)
        rw [show (2 : Int32) + nI i = nI (2 + i) from nI_add 2 i, nI_clamp (by omega), g3 i hi]
        have := hte i hi
        refine ⟨vp_in_nI (by omega) (by omega), pk_eq (te i) j (fun z => ⟨fun _ => ⟨⟨Or.inl ⟨hb, hR⟩, hH, hP, hC⟩, Nat.le_refl _⟩, fun z => z rfl⟩) (fun z => ?_)⟩
        rw [nI_1]
        refine hag _ ⟨rfl, fun a ha => ?_⟩
        by_cases e : a = i
        · subst e; exact z
        · exact hf a (by omega)
      · rintro st again ⟨rfl, hf⟩
        obtain ⟨i, hi, e⟩ := hex
        exact absurd e (hf i hi)
    · refine ⟨fun _ => ?_, fun z => absurd rfl z⟩
      rw [d2]
      refine pk_lt n 5 (fun z => ?_) (fun z => ?_)
      · obtain ⟨h, p, hh, hp, e1, e2, e3, hjj⟩ := hH
        refine wp_keepX hh hp e1 e2 ⟨vp_in_nI z (by omega), ?_⟩
        rw [nI_clamp (by omega), nI_1]
        unfold wpM_1 wpX7_term
        refine hbg _ (fun g b hb hG => ?_)
        have hR : RR x.1 g := ⟨K, n, te, ti, wo, mk, c, pl, rd, hV, hD, hG⟩
        obtain ⟨g1, g2, g3, g4, g5, g6, g7, g8, g9⟩ := hG
        refine wp_isM (by omega) g1 _ (fun j' hj' e => ?_) (fun hn => absurd rfl (hn j hj))
        refine ⟨fun z => absurd z (by decide), fun _ => ?_⟩
        rw [g2]
        refine pk_eq n 5 (fun z => absurd z (by omega)) (fun z => ?_)
        refine wloop_n (fun i st => st = nI i) n rfl ?_ ?_
        · rintro i st again hi rfl hag
          rw [wbX7_term_31, g2]
          refine pk_le n i (fun z => absurd z (by omega)) (fun _ => ?_)
          rw [show (2 : Int32) + nI i = nI (2 + i) from nI_add 2 i, nI_clamp (by omega), g3 i hi]
          have := hte i hi
          refine ⟨vp_in_nI (by omega) (by omega), pk_eq (te i) j (fun z => absurd z (hno i hi)) (fun z => ?_)⟩
          rw [nI_1]
          exact hag _ rfl
        · rintro st again rfl
          rw [wbX7_term_31, g2]
          refine pk_le n n (fun _ => wp_keepM hh e3 (fun kept' hk => ?_)) (fun z => absurd z (by omega))
          rw [show (2 : Int32) + nI n = nI (2 + n) from nI_add 2 n, nI_clamp (by omega), pk_un (show (1 : Nat) ≠ 2 + n by omega), g2, nI_1, pk_us]
          refine ⟨vp_in_nI (by omega) (by omega), fun _ => ⟨⟨Or.inl ⟨hb, ?_⟩, HI_keep hh hp hjj (by rw [← d2]; exact hR) hk, hP, hC⟩, Nat.le_refl _⟩, fun z => z rfl⟩
          show RR (x.1.1, nI (n + 1), x.1.2.2.1, x.1.2.2.2.1, x.1.2.2.2.2.1, upd x.1.2.2.2.2.2.1 n (nI j), x.1.2.2.2.2.2.2) (upd (upd g (2 + n) (nI j)) 1 (nI (n + 1)))
          refine ⟨K, n + 1, fun i => if i = n then j else te i, ti, wo, mk, c, pl, rd, ⟨⟨hK1, hK6⟩, ⟨by omega, by omega⟩, fun i hi => ?_, fun i i' h1 h2 => ?_, hti, htz, htot, hwo, hin, hmk, hc, hpl, hrd⟩, ⟨d1, rfl, d3, d4, d5, fun i hi => ?_, d7, d8, d9, d10, d11⟩, ⟨?_, pk_us, fun i hi => ?_, fun s hs => ?_, fun i hi => ?_, fun i hi h0 => ?_, ?_, fun s hs => ?_, fun s hs => ?_⟩⟩
          · dsimp only
            by_cases e : i = n
            · rw [if_pos e]; exact hj
            · rw [if_neg e]; exact hte i (by omega)
          · dsimp only
            rw [if_neg (show ¬ i = n by omega)]
            by_cases e : i' = n
            · rw [if_pos e]; exact hno i (by omega)
            · rw [if_neg e]; exact hdi i i' h1 (by omega)
          · dsimp only
            by_cases e : i = n
            · subst e; rw [if_pos rfl, pk_us]
            · rw [if_neg e, pk_un e]; exact d6 i (by omega)
          · rw [pk_un (by omega), pk_un (by omega), g1]
          · dsimp only
            rw [pk_un (by omega)]
            by_cases e : i = n
            · subst e; rw [if_pos rfl, pk_us]
            · rw [if_neg e, pk_un (by omega)]; exact g3 i (by omega)
          · rw [pk_un (by omega), pk_un (by omega), g4 s hs]
          · rw [pk_un (by omega), pk_un (by omega), g5 i hi]
          · rw [pk_un (by omega), pk_un (by omega), g6 i hi h0]
          · rw [pk_un (by omega), pk_un (by omega), g7]
          · rw [pk_un (by omega), pk_un (by omega), g8 s hs]
          · rw [pk_un (by omega), pk_un (by omega), g9 s hs]
      · unfold wpM_1 wpX7_term
        refine hbg _ (fun g b hb hG => ?_)
        have hR : RR x.1 g := ⟨K, n, te, ti, wo, mk, c, pl, rd, hV, hD, hG⟩
        obtain ⟨g1, g2, g3, g4, g5, g6, g7, g8, g9⟩ := hG
        refine wp_isM (by omega) g1 _ (fun j' hj' e => ?_) (fun hn => absurd rfl (hn j hj))
        refine ⟨fun z => absurd z (by decide), fun _ => ?_⟩
        rw [g2]
        exact pk_eq n 5 (fun z => ⟨fun _ => ⟨⟨Or.inl ⟨hb, by rw [← d2]; exact hR⟩, hH, hP, hC⟩, Nat.le_refl _⟩, fun z => z rfl⟩) (fun z => absurd (show n = 5 by omega) z)
  · refine ⟨fun _ => ?_, fun z => absurd rfl z⟩
    unfold wpM_1 wpX7_term
    refine hbg _ (fun g b hb hG => ?_)
    have hR : RR x.1 g := ⟨K, n, te, ti, wo, mk, c, pl, rd, hV, hD, hG⟩
    obtain ⟨g1, g2, g3, g4, g5, g6, g7, g8, g9⟩ := hG
    exact wp_isM (by omega) g1 _ (fun j' hj' e => absurd e (hno j' hj')) (fun hn => ⟨fun _ => ⟨fun _ => ⟨⟨Or.inl ⟨hb, hR⟩, hH, hP, hC⟩, Nat.le_refl _⟩, fun z => z rfl⟩, fun z => absurd rfl z⟩)
