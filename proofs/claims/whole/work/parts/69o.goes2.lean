/-! the reference's way through all PLANS -/
theorem wp_weighs {K n N : Nat} (hK : K ≤ 6) (hn1 : 1 ≤ n) (hn : n ≤ 5) (hN : N ≤ 40) {te : Nat → Nat} (hte : ∀ i, i < n → te i < 64) {D : (Nat → Nat) → Prop} (hD : ∀ v, D v → vpl (2 ^ K) N v) {u : Nat → Nat} (hu : vpl (2 ^ K) N u) (hnew : ¬ D u) (hlex : ∀ v, D v → lexgt v u) {g : Nat → Int32} (hG : PG g K n te u) {gr : Int64} {gs : Int32} {fi : Nat → Int32} (hj : JM (2 ^ K) (WW K n te) D gr gs fi) {table work part : Nat → Int64} {k : (Nat → Int64) → (Nat → Int64) → (Nat → Int64) → (Nat → Int32) → Int64 → Int32 → Prop} (h : ∀ tb w p fi' gr' gs', JM (2 ^ K) (WW K n te) (fun v => D v ∨ v = u) gr' gs' fi' → k tb w p fi' gr' gs') : wpX7_weighs g table work part fi gr gs k := by
  have h64 := p64 hK
  have hWb : ∀ v, vpl (2 ^ K) N v → 0 ≤ WW K n te v ∧ (WW K n te v).natAbs < 4611686018427387904 := fun v hv => ⟨det_nonneg (psd_tbp _ _ _ _ _), by
    have := det_b hn (T := tbp n te id v (2 ^ K)) (fun i j => tbp_b (by rw [hv.2.2]; omega) i j)
    unfold WW; omega⟩
  obtain ⟨hw0, hwb⟩ := hWb u hu
  have hx0 := enc_lt hu.1 (2 ^ K)
  unfold wpX7_weighs
  refine wp_tabP (by omega) hn hte (fun s _ => by have := hu.1 s; omega) hG.1 hG.2.1 hG.2.2.1 hG.2.2.2 (fun tb htb => ?_)
  refine wp_wholeWorth hn hG.2.1 htb (fun w p => ?_)
  rw [show det n (tbp n te id u (2 ^ K)) = WW K n te u from rfl]
  -- the copy of a new first one
  have cp : ∀ (gr2 : Int64), (∀ fi', (∀ s, s < 64 → fi' s = nI (u s)) → k tb w p fi' gr2 1) → wloop (wbX7_weighs_51 g k tb w p gr2) ((0 : Int32), fi) := fun gr2 hk => by
    refine wloop_n (fun i st => ∃ f, st = (nI i, f) ∧ ∀ s, s < i → f s = nI (u s)) 64 ⟨fi, rfl, fun s hs => absurd hs (Nat.not_lt_zero _)⟩ ?_ ?_
    · rintro i st again hi ⟨f, rfl, hf⟩ hag
      rw [wbX7_weighs_51, show (7 : Int32) + nI i = nI (7 + i) from nI_add 7 i, nI_clamp (show 7 + i < 2 ^ 31 by omega), nI_clamp (show i < 2 ^ 31 by omega), hG.2.2.2 i hi, nI_1]
      refine pk_le 64 i (fun z => absurd z (by omega)) (fun _ => ⟨vp_in_nI (by omega) (by omega), vp_in_nI (by omega) (by omega), hag _ ⟨_, rfl, fun s hs => ?_⟩⟩)
      by_cases e : s = i
      · subst e; rw [pk_us]
      · rw [pk_un e]; exact hf s (by omega)
    · rintro st again ⟨f, rfl, hf⟩
      rw [wbX7_weighs_51]
      exact pk_le 64 64 (fun _ => hk f hf) (fun z => absurd z (by omega))
  rcases hj with ⟨h1, h2, h3⟩ | ⟨v, v1, v2, v3, v4, v5, v6⟩
  · have ne : lI (WW K n te u) ≠ gr := by rw [h2, show (-1 : Int64) = lI (-1) from rfl]; intro z; rw [lI_inj (by omega) (by decide)] at z; omega
    have lt : gr < lI (WW K n te u) := by rw [h2, show (-1 : Int64) = lI (-1) from rfl, lI_lt (by decide) (by omega)]; omega
    refine ⟨fun z => absurd z ne, fun _ => ?_⟩
    unfold wjX7_weighs_29
    refine ⟨fun _ => cp _ (fun fi' hfi => h _ _ _ _ _ _ (Or.inr ⟨u, Or.inr rfl, rfl, fun v hv => ?_, fun v hv _ => ?_, hfi, ?_⟩)), fun z => absurd lt z⟩
    · rcases hv with hv | hv
      · exact absurd hv (h1 v)
      · rw [hv]; exact Int.le_refl _
    · rcases hv with hv | hv
      · exact absurd hv (h1 v)
      · rw [hv]; exact lex_irr u
    · rw [cnt_add1 (P := fun _ => False) hx0 (fun z => z) ⟨Or.inr (dgp_enc hu.1 hu.2.1), by rw [dgp_enc hu.1 hu.2.1]⟩ (fun x hx hne => ⟨fun z => z.elim, fun z => ?_⟩), cnt_none (fun x _ z => z)]
      · rfl
      · rcases z.1 with z | z
        · exact h1 _ z
        · exact hne ((eq_dgp hu.1 hu.2.1 hx).1 z)
  · obtain ⟨hv0, hvb⟩ := hWb v (hD v v1)
    subst v2
    rw [lI_inj (by omega) (by omega)]
    unfold wjX7_weighs_29
    rw [lI_lt (by omega) (by omega)]
    refine ⟨fun ew => ⟨fun z => absurd z (by omega), fun _ => h _ _ _ _ _ _ (Or.inr ⟨v, Or.inl v1, rfl, fun v' hv' => ?_, fun v' hv' e => ?_, v5, ?_⟩)⟩, fun ene => ⟨fun zl => cp _ (fun fi' hfi => h _ _ _ _ _ _ (Or.inr ⟨u, Or.inr rfl, rfl, fun v' hv' => ?_, fun v' hv' e => ?_, hfi, ?_⟩)), fun zl => h _ _ _ _ _ _ (Or.inr ⟨v, Or.inl v1, rfl, fun v' hv' => ?_, fun v' hv' e => ?_, v5, ?_⟩)⟩⟩
    · rcases hv' with hv' | hv'
      · exact v3 v' hv'
      · rw [hv', ew]; exact Int.le_refl _
    · rcases hv' with hv' | hv'
      · exact v4 v' hv' e
      · rw [hv']; exact lex_asym (hlex v v1)
    · rw [v6, cnt_add1 (P := fun x => D (dgp (2 ^ K) x) ∧ WW K n te (dgp (2 ^ K) x) = WW K n te v) (Q := fun x => (D (dgp (2 ^ K) x) ∨ dgp (2 ^ K) x = u) ∧ WW K n te (dgp (2 ^ K) x) = WW K n te v) hx0 (fun z => hnew (by have := z.1; rwa [dgp_enc hu.1 hu.2.1] at this)) ⟨Or.inr (dgp_enc hu.1 hu.2.1), by rw [dgp_enc hu.1 hu.2.1]; exact ew⟩ (fun x hx hne => ⟨fun z => ⟨Or.inl z.1, z.2⟩, fun z => ⟨?_, z.2⟩⟩)]
      · rw [← iI_add]; rfl
      · rcases z.1 with z1 | z1
        · exact z1
        · exact absurd ((eq_dgp hu.1 hu.2.1 hx).1 z1) hne
    · rcases hv' with hv' | hv'
      · have := v3 v' hv'; omega
      · rw [hv']; exact Int.le_refl _
    · rcases hv' with hv' | hv'
      · have := v3 v' hv'; omega
      · rw [hv']; exact lex_irr u
    · rw [cnt_add1 (P := fun _ => False) hx0 (fun z => z) ⟨Or.inr (dgp_enc hu.1 hu.2.1), by rw [dgp_enc hu.1 hu.2.1]⟩ (fun x hx hne => ⟨fun z => z.elim, fun z => ?_⟩), cnt_none (fun x _ z => z)]
      · rfl
      · rcases z.1 with z1 | z1
        · have := v3 _ z1
          have := z.2
          omega
        · exact hne ((eq_dgp hu.1 hu.2.1 hx).1 z1)
    · rcases hv' with hv' | hv'
      · exact v3 v' hv'
      · rw [hv']; omega
    · rcases hv' with hv' | hv'
      · exact v4 v' hv' e
      · rw [hv'] at e; exact absurd e ene
    · rw [v6]
      congr 1
      refine cnt_cong (fun x hx => ⟨fun z => ⟨Or.inl z.1, z.2⟩, fun z => ⟨?_, z.2⟩⟩)
      rcases z.1 with z1 | z1
      · exact z1
      · have := z.2
        rw [z1] at this; exact absurd this ene
def DM (S N : Nat) (t : Nat → Nat) (L : Nat) (u : Nat → Nat) : Prop := vpl S N u ∧ ∃ j, j ≤ L ∧ (∀ i, i < j → u i = t i) ∧ t j < u j
def mvl (t : Nat → Nat) : Nat → Nat
  | 0 => 0
  | m + 1 => mvl t m * 10 + t m
theorem mvl_cong {t t' : Nat → Nat} : ∀ {m : Nat}, (∀ i, i < m → t i = t' i) → mvl t m = mvl t' m
  | 0, _ => rfl
  | m + 1, h => by rw [mvl, mvl, mvl_cong (m := m) (fun i hi => h i (by omega)), h m (by omega)]
theorem mvl_b {t : Nat → Nat} (h9 : ∀ s, t s ≤ 9) {a : Nat} : ∀ d, mvl t a * 10 ^ d ≤ mvl t (a + d) ∧ mvl t (a + d) < (mvl t a + 1) * 10 ^ d
  | 0 => by simp
  | d + 1 => by
    obtain ⟨h1, h2⟩ := mvl_b h9 (a := a) d
    have h3 := h9 (a + d)
    rw [show a + (d + 1) = (a + d) + 1 by omega, mvl, Nat.pow_succ, ← Nat.mul_assoc, ← Nat.mul_assoc]
    omega
theorem last_nz (c : Nat → Nat) : ∀ m, (∀ s, s < m → c s = 0) ∨ ∃ L, L < m ∧ c L ≠ 0 ∧ ∀ s, L < s → s < m → c s = 0
  | 0 => Or.inl (fun s hs => absurd hs (Nat.not_lt_zero _))
  | m + 1 => by
    by_cases e : c m = 0
    · rcases last_nz c m with h | ⟨L, h1, h2, h3⟩
      · refine Or.inl (fun s hs => ?_)
        by_cases e2 : s = m
        · subst e2; exact e
        · exact h s (by omega)
      · refine Or.inr ⟨L, by omega, h2, fun s hs1 hs2 => ?_⟩
        by_cases e2 : s = m
        · subst e2; exact e
        · exact h3 s hs1 (by omega)
    · exact Or.inr ⟨m, by omega, e, fun s h1 h2 => absurd h2 (by omega)⟩
/-- PLANS that go on as a leaf does are the leaf, or ahead of it -/
theorem leaf_all {S N : Nat} {c : Nat → Nat} {L lf : Nat} (hS : 2 ≤ S) (hL : L ≤ S - 1) (hz : ∀ s, L ≤ s → s < S - 1 → c s = 0) (hzS : ∀ s, S ≤ s → c s = 0) (ht : tot c S + (lf : Int) = (N : Int)) {u : Nat → Nat} (hu : vpl S N u) (hag : ∀ i, i < L → u i = c i) : DM S N c (S - 1) u ∨ (lf = 0 ∧ u = c) := by
  by_cases e : ∀ s, s < S - 1 → u s = c s
  · have e1 : tot u S = tot u (S - 1) + (u (S - 1) : Int) := by rw [show S = (S - 1) + 1 by omega]; rfl
    have e2 : tot c S = tot c (S - 1) + (c (S - 1) : Int) := by rw [show S = (S - 1) + 1 by omega]; rfl
    have e3 : tot u (S - 1) = tot c (S - 1) := tot_congr e
    have e4 := hu.2.2
    by_cases z : lf = 0
    · refine Or.inr ⟨z, funext (fun s => ?_)⟩
      rcases Nat.lt_trichotomy s (S - 1) with h | h | h
      · exact e s h
      · subst h; omega
      · rw [hu.2.1 s (by omega), hzS s (by omega)]
    · exact Or.inl ⟨hu, S - 1, Nat.le_refl _, e, by omega⟩
  · have first : ∀ m, (¬ ∀ s, s < m → u s = c s) → ∃ j, j < m ∧ u j ≠ c j ∧ ∀ i, i < j → u i = c i := by
      intro m
      induction m with
      | zero => intro h; exact absurd (fun s hs => absurd hs (Nat.not_lt_zero _)) h
      | succ m ih =>
        intro h
        by_cases q : ∀ s, s < m → u s = c s
        · refine ⟨m, by omega, fun z => h (fun s hs => ?_), q⟩
          by_cases e2 : s = m
          · subst e2; exact z
          · exact q s (by omega)
        · obtain ⟨j, j1, j2, j3⟩ := ih q; exact ⟨j, by omega, j2, j3⟩
    obtain ⟨j, j1, j2, j3⟩ := first _ e
    refine Or.inl ⟨hu, j, by omega, j3, ?_⟩
    have hjL : L ≤ j := by
      rcases Nat.lt_or_ge j L with h | h
      · exact absurd (hag j h) j2
      · exact h
    rw [hz j hjL j1] at j2 ⊢; omega
theorem wp_goes {K n N : Nat} (hK1 : 1 ≤ K) (hK : K ≤ 6) (hn1 : 1 ≤ n) (hn : n ≤ 5) (hN : N ≤ 40) {te : Nat → Nat} (hte : ∀ i, i < n → te i < 64) {g : Nat → Int32} (hg0 : g 0 = nI K) (hg1 : g 1 = nI n) (hg2 : ∀ i, i < n → g (2 + i) = nI (te i)) {table work part : Nat → Int64} {aside fi : Nat → Int32} {gr : Int64} {gs : Int32} {k : (Nat → Int32) → (Nat → Int64) → (Nat → Int64) → (Nat → Int64) → (Nat → Int32) → (Nat → Int32) → Int64 → Int32 → Prop}
    (h : ∀ g9 tb w p as fi' gr' gs', (∀ q, q < 202 → g9 q = g q) → JM (2 ^ K) (WW K n te) (vpl (2 ^ K) N) gr' gs' fi' → k g9 tb w p as fi' gr' gs') : wpX7_goes g table work part aside fi gr gs (nI N) k := by
  have h64 := p64 hK
  have hS2 : 2 ≤ 2 ^ K := by
    have := Nat.pow_le_pow_right (n := 2) (by omega) hK1
    omega
  unfold wpX7_goes
  refine wloop_n (fun i st => ∃ g' as, st = (nI i, g', as) ∧ (∀ q, q < 7 ∨ 71 ≤ q → g' q = g q) ∧ (∀ s, s < i → g' (7 + s) = 0 ∧ as s = g (7 + s)) ∧ ∀ s, i ≤ s → s < 64 → g' (7 + s) = g (7 + s)) 64 ⟨g, aside, rfl, fun _ _ => rfl, fun s hs => absurd hs (Nat.not_lt_zero _), fun _ _ _ => rfl⟩ ?_ ?_
  · rintro i st again hi ⟨g', as, rfl, h1, h2, h3⟩ hag
    rw [wbX7_goes_2, show (7 : Int32) + nI i = nI (7 + i) from nI_add 7 i, nI_clamp (show 7 + i < 2 ^ 31 by omega), nI_clamp (show i < 2 ^ 31 by omega), nI_1]
    refine pk_le 64 i (fun z => absurd z (by omega)) (fun _ => ⟨vp_in_nI (by omega) (by omega), vp_in_nI (by omega) (by omega), vp_in_nI (by omega) (by omega), hag _ ⟨_, _, rfl, fun q hq => ?_, fun s hs => ?_, fun s hs1 hs2 => ?_⟩⟩)
    · rw [pk_un (by omega)]; exact h1 q hq
    · by_cases e : s = i
      · subst e; rw [pk_us, pk_us, h3 s (Nat.le_refl _) hi]; exact ⟨rfl, rfl⟩
      · rw [pk_un (by omega), pk_un e]; exact h2 s (by omega)
    · rw [pk_un (by omega)]; exact h3 s (by omega) hs2
  · rintro st again ⟨g', as, rfl, h1, h2, _⟩
    rw [wbX7_goes_2]
    refine pk_le 64 64 (fun _ => wp_settM (K := K) (by omega) (by rw [h1 0 (by omega)]; exact hg0) ?_) (fun z => absurd z (by omega))
    -- from the first PLAN on
    have main : ∀ v, v = min 9 N → wjX7_goes_81 table work part fi (nI N) k g' as (nI (2 ^ K)) (7 : Int32) (nI v) := by
      intro v hv
      unfold wjX7_goes_81
      rw [show ((7 : Int32)).toNatClampNeg = 7 from rfl, pk_us, pk_sub (show v ≤ N by omega)]
      refine ⟨vp_in_nI (n := 7) (by omega) (by omega), ?_⟩
      refine wloop_i (fun m st => ∃ g' tb w p fi' gr' gs', (∀ q, q < 7 ∨ 71 ≤ q → g' q = g q) ∧ ((∃ t L lf, st = (nI L, nI lf, 1, g', tb, w, p, fi', gr', gs') ∧ L < 2 ^ K ∧ (∀ s, L < s → t s = 0) ∧ (∀ s, t s ≤ 9) ∧ tot t (2 ^ K) + (lf : Int) = (N : Int) ∧ (∀ s, s < 64 → g' (7 + s) = nI (t s)) ∧ JM (2 ^ K) (WW K n te) (DM (2 ^ K) N t L) gr' gs' fi' ∧ m = (mvl t (L + 1) + 1) * 10 ^ (2 ^ K - 1 - L)) ∨ (∃ lv lf, st = (lv, lf, 0, g', tb, w, p, fi', gr', gs') ∧ JM (2 ^ K) (WW K n te) (vpl (2 ^ K) N) gr' gs' fi' ∧ m = 0))) (m0 := (mvl (fun s => if s = 0 then v else 0) 1 + 1) * 10 ^ (2 ^ K - 1)) ?_ ?_
      · refine ⟨_, _, _, _, _, _, _, fun q hq => by rw [pk_un (by omega)]; exact h1 q hq, Or.inl ⟨fun s => if s = 0 then v else 0, 0, N - v, rfl, by omega, fun s hs => if_neg (by omega), fun s => by dsimp only; split <;> omega, ?_, fun s hs => ?_, Or.inl ⟨fun u hu => ?_, rfl, rfl⟩, by rw [Nat.sub_zero]⟩⟩
        · have e := tot_chg (f := fun _ => 0) (g := fun s => if s = 0 then v else 0) (s := 0) (n := 2 ^ K) (fun t ht => if_neg ht) (by omega)
          have e0 : tot (fun _ => 0) (2 ^ K) = 0 := sm_zero (fun _ _ => rfl)
          rw [e, e0]
          show (0 : Int) - ((0 : Nat) : Int) + ((if (0 : Nat) = 0 then v else 0 : Nat) : Int) + _ = _
          rw [if_pos rfl]; omega
        · by_cases e : s = 0
          · subst e; dsimp only; rw [if_pos rfl, pk_us]
          · dsimp only; rw [if_neg e, pk_un (by omega)]; exact (h2 s hs).1
        · obtain ⟨hv2, j, j1, j2, j3⟩ := hu
          have ej : j = 0 := by omega
          subst ej
          dsimp only at j3
          rw [if_pos rfl] at j3
          have a1 := hv2.1 0
          have a2 := tot_ge u (n := 2 ^ K) (j := 0) (by omega)
          have a3 := hv2.2.2
          omega
      · rintro m st again2 ⟨g', tb, w, p, fi', gr', gs', hq1, hst⟩ hag
        rcases hst with ⟨t, L, lf, rfl, hL, hz, h9, htot, hcell, hj, hm⟩ | ⟨lv, lf, rfl, hj, hm⟩
        · rw [wbX7_goes_97]
          refine ⟨fun z => absurd z (by decide), fun _ => ?_⟩
          have eS1 : nI (2 ^ K) - 1 = nI (2 ^ K - 1) := by obtain ⟨q, hq⟩ : ∃ q, 2 ^ K = q + 1 := ⟨2 ^ K - 1, by omega⟩; rw [hq]; exact nI_pred q
          refine wloop_n (fun d st => ∃ g2 t2 lf2, st = (nI (L + d), nI lf2, g2) ∧ (∀ q, q < 7 ∨ 71 ≤ q → g2 q = g q) ∧ (∀ s, s ≤ L → t2 s = t s) ∧ (∀ s, L + d < s → t2 s = 0) ∧ (∀ s, t2 s ≤ 9) ∧ tot t2 (2 ^ K) + (lf2 : Int) = (N : Int) ∧ (∀ s, s < 64 → g2 (7 + s) = nI (t2 s)) ∧ JM (2 ^ K) (WW K n te) (DM (2 ^ K) N t2 (L + d)) gr' gs' fi') (2 ^ K - 1 - L) ⟨g', t, lf, rfl, hq1, fun _ _ => rfl, hz, h9, htot, hcell, hj⟩ ?_ ?_
          · rintro d st again3 hd ⟨g2, t2, lf2, rfl, hq2, hpre, hz2, h92, htot2, hcell2, hj2⟩ hag3
            have htn := tot_nonneg t2 (2 ^ K)
            rw [wbX7_goes_102, eS1]
            refine pk_le (2 ^ K - 1) (L + d) (fun z => absurd z (by omega)) (fun _ => ?_)
            -- the next SETTING takes as many as can be
            have put : ∀ x, x = min 9 lf2 → wjX7_goes_133 (nI (L + d)) (nI lf2) g2 again3 ((7 : Int32) + (nI (L + d) + (1 : Int32))) (nI x) := by
              intro x hx
              unfold wjX7_goes_133
              rw [nI_1, show (7 : Int32) + nI (L + d + 1) = nI (7 + (L + d + 1)) from nI_add 7 _, nI_clamp (by omega), pk_us, pk_sub (show x ≤ lf2 by omega)]
              have htc := tot_chg (f := t2) (g := fun s => if s = L + d + 1 then x else t2 s) (s := L + d + 1) (n := 2 ^ K) (fun s hs => if_neg hs) (by omega)
              have hz0 := hz2 (L + d + 1) (by omega)
              refine ⟨vp_in_nI (by omega) (by omega), vp_in_nI (by omega) (by omega), hag3 _ ⟨_, fun s => if s = L + d + 1 then x else t2 s, lf2 - x, by rw [show L + (d + 1) = L + d + 1 by omega], fun q hq => by rw [pk_un (by omega)]; exact hq2 q hq, fun s hs => by dsimp only; rw [if_neg (show ¬ s = L + d + 1 by omega)]; exact hpre s hs, fun s hs => by dsimp only; rw [if_neg (show ¬ s = L + d + 1 by omega)]; exact hz2 s (by omega), fun s => by
                have := h92 s
                dsimp only; split <;> omega, ?_, fun s hs => ?_, JM_cong (fun u => ?_) hj2⟩⟩
              · rw [htc, hz0]
                rw [if_pos rfl]; omega
              · by_cases e : s = L + d + 1
                · subst e; dsimp only; rw [if_pos rfl, pk_us]
                · dsimp only; rw [if_neg e, pk_un (by omega)]; exact hcell2 s hs
              · constructor
                · rintro ⟨hu, j, j1, j2, j3⟩
                  exact ⟨hu, j, by omega, fun i hi => by dsimp only; rw [if_neg (show ¬ i = L + d + 1 by omega)]; exact j2 i hi, by dsimp only; rw [if_neg (show ¬ j = L + d + 1 by omega)]; exact j3⟩
                · rintro ⟨hu, j, j1, j2, j3⟩
                  dsimp only at j2 j3
                  by_cases e : j = L + d + 1
                  · exfalso
                    subst e
                    rw [if_pos rfl] at j3
                    have a1 := hu.1 (L + d + 1)
                    have a2 : tot u (L + d + 1) = tot t2 (L + d + 1) := tot_congr (fun i hi => by rw [j2 i hi, if_neg (show ¬ i = L + d + 1 by omega)])
                    have a3 : tot u (L + d + 1 + 1) = tot u (L + d + 1) + (u (L + d + 1) : Int) := rfl
                    have a4 := tot_split (u := u) (f := L + d + 1 + 1) (S := 2 ^ K) (by omega)
                    have a5 : 0 ≤ sm (2 ^ K - (L + d + 1 + 1)) (fun q => (u (L + d + 1 + 1 + q) : Int)) := sm_nonneg _ _ (fun _ _ => Int.natCast_nonneg _)
                    have a6 := tot_z (f := t2) (S := L + d + 1) (fun s hs => hz2 s (by omega)) (N := 2 ^ K) (by omega)
                    have a7 := hu.2.2
                    omega
                  · exact ⟨hu, j, by omega, fun i hi => by have := j2 i hi; rwa [if_neg (show ¬ i = L + d + 1 by omega)] at this, by rwa [if_neg e] at j3⟩
            refine pk_le lf2 9 (fun z => put _ (by omega)) (fun z => put 9 (by omega))
          · rintro st again3 ⟨g2, c, lf2, rfl, hq2, hpre, hz2, h92, htot2, hcell2, hj2⟩
            rw [show L + (2 ^ K - 1 - L) = 2 ^ K - 1 by omega] at hz2 hj2 ⊢
            have htn := tot_nonneg c (2 ^ K)
            have hcl := tot_ge c (n := 2 ^ K) (j := 2 ^ K - 1) (by omega)
            rw [wbX7_goes_102, eS1]
            -- back to the last one that can be lessened
            have back : ∀ (tb2 w2 p2 : Nat → Int64) (fi2 : Nat → Int32) (gr2 : Int64) (gs2 : Int32), JM (2 ^ K) (WW K n te) (fun u => DM (2 ^ K) N c (2 ^ K - 1) u ∨ (lf2 = 0 ∧ u = c)) gr2 gs2 fi2 → wjX7_goes_160 (nI (2 ^ K)) again2 (nI lf2) g2 tb2 w2 p2 fi2 gr2 gs2 := by
              intro tb2 w2 p2 fi2 gr2 gs2 hj3
              unfold wjX7_goes_160
              rw [eS1, show (7 : Int32) + nI (2 ^ K - 1) = nI (7 + (2 ^ K - 1)) from nI_add 7 _, show nI (2 ^ K - 1) - 1 = nI (2 ^ K - 2) by obtain ⟨q, hq⟩ : ∃ q, 2 ^ K = q + 2 := ⟨2 ^ K - 2, by omega⟩; rw [hq]; exact nI_pred q]
              refine ⟨vp_in_nI (by omega) (by omega), vp_in_nI (by omega) (by omega), ?_⟩
              have hcell3 : ∀ s, s < 64 → upd g2 (7 + (2 ^ K - 1)) 0 (7 + s) = nI (if s = 2 ^ K - 1 then 0 else c s) := fun s hs => by
                by_cases e : s = 2 ^ K - 1
                · rw [if_pos e, e, pk_us]; rfl
                · rw [if_neg e, pk_un (by omega)]; exact hcell2 s hs
              have step : ∀ (x : Int32) (again4 : Int32 → Prop), wbX7_goes_188 (nI (2 ^ K)) again2 (nI lf2) g2 tb2 w2 p2 fi2 gr2 gs2 x again4 ↔ (((x < 0) → (wjX7_goes_211 (nI (2 ^ K)) again2 (nI lf2) g2 tb2 w2 p2 fi2 gr2 gs2 x )) ∧ (¬ (x < 0) → ((vp_in ((7 : Int32) + x) 202) ∧ (((((upd g2 (7 + (2 ^ K - 1)) (0 : Int32)) (((7 : Int32) + x).toNatClampNeg)) = 0) → (again4 (x - (1 : Int32)))) ∧ (¬ (((upd g2 (7 + (2 ^ K - 1)) (0 : Int32)) (((7 : Int32) + x).toNatClampNeg)) = 0) → (wjX7_goes_211 (nI (2 ^ K)) again2 (nI lf2) g2 tb2 w2 p2 fi2 gr2 gs2 x )))))) := fun x again4 => by
                rw [wbX7_goes_188, eS1, show (7 : Int32) + nI (2 ^ K - 1) = nI (7 + (2 ^ K - 1)) from nI_add 7 _, nI_clamp (show 7 + (2 ^ K - 1) < 2 ^ 31 by omega)]
              have down : ∀ i, i < 2 ^ K - 1 → c (2 ^ K - 2 - i) = 0 → ∀ again4 : Int32 → Prop, again4 (nI (2 ^ K - 2 - i) - 1) → wbX7_goes_188 (nI (2 ^ K)) again2 (nI lf2) g2 tb2 w2 p2 fi2 gr2 gs2 (nI (2 ^ K - 2 - i)) again4 := fun i hi hc0 again4 ha => by
                rw [step, show (7 : Int32) + nI (2 ^ K - 2 - i) = nI (7 + (2 ^ K - 2 - i)) from nI_add 7 _, nI_clamp (show 7 + (2 ^ K - 2 - i) < 2 ^ 31 by omega), hcell3 _ (by omega), if_neg (by omega), hc0]
                exact ⟨fun z => absurd z (nI_pos (by omega)), fun _ => ⟨vp_in_nI (by omega) (by omega), fun _ => ha, fun z => absurd rfl z⟩⟩
              have hq3 : ∀ q, q < 7 ∨ 71 ≤ q → upd g2 (7 + (2 ^ K - 1)) 0 q = g q := fun q hq => by rw [pk_un (by omega)]; exact hq2 q hq
              rcases last_nz c (2 ^ K - 1) with hall | ⟨L2, b1, b2, b3⟩
              · -- none: all have been gone through
                refine wloop_n (fun i st => (i < 2 ^ K - 1 ∧ st = nI (2 ^ K - 2 - i)) ∨ (i = 2 ^ K - 1 ∧ st = -1)) (2 ^ K - 1) (Or.inl ⟨by omega, rfl⟩) ?_ ?_
                · rintro i st again4 hi hst hag4
                  rcases hst with ⟨_, rfl⟩ | ⟨e, _⟩
                  · refine down i hi (hall _ (by omega)) again4 (hag4 _ ?_)
                    by_cases e : i + 1 < 2 ^ K - 1
                    · refine Or.inl ⟨e, ?_⟩
                      rw [show 2 ^ K - 2 - i = (2 ^ K - 2 - (i + 1)) + 1 by omega]; exact nI_pred _
                    · refine Or.inr ⟨by omega, ?_⟩
                      rw [show 2 ^ K - 2 - i = 0 by omega]; rfl
                  · omega
                · rintro st again4 hst
                  rcases hst with ⟨e, _⟩ | ⟨_, rfl⟩
                  · omega
                  · rw [step]
                    refine ⟨fun _ => ?_, fun z => absurd (by decide) z⟩
                    unfold wjX7_goes_211 wjX7_goes_220
                    refine ⟨fun _ => ⟨fun _ => ?_, fun z => absurd rfl z⟩, fun z => absurd (by decide) z⟩
                    rw [eS1, show (7 : Int32) + nI (2 ^ K - 1) = nI (7 + (2 ^ K - 1)) from nI_add 7 _, nI_clamp (show 7 + (2 ^ K - 1) < 2 ^ 31 by omega)]
                    have hpm : 0 < m := by rw [hm]; exact Nat.mul_pos (Nat.succ_pos _) (Nat.pow_pos (by omega))
                    refine hag 0 _ hpm ⟨_, _, _, _, _, _, _, hq3, Or.inr ⟨_, _, rfl, JM_cong (fun u => ⟨fun z => ?_, fun z => ?_⟩) hj3, rfl⟩⟩
                    · rcases z with z | z
                      · exact z.1
                      · rw [z.2]
                        exact ⟨h92, fun s hs => hz2 s (by omega), by have := z.1; omega⟩
                    · exact leaf_all hS2 (Nat.zero_le _) (fun s _ hs => hall s hs) (fun s hs => hz2 s (by omega)) htot2 z (fun i hi => absurd hi (Nat.not_lt_zero _))
              · refine wloop_n (fun i st => st = nI (2 ^ K - 2 - i)) (2 ^ K - 2 - L2) rfl ?_ ?_
                · rintro i st again4 hi rfl hag4
                  refine down i (by omega) (b3 _ (by omega) (by omega)) again4 (hag4 _ ?_)
                  rw [show 2 ^ K - 2 - i = (2 ^ K - 2 - (i + 1)) + 1 by omega]; exact nI_pred _
                · rintro st again4 rfl
                  rw [show 2 ^ K - 2 - (2 ^ K - 2 - L2) = L2 by omega, step, show (7 : Int32) + nI L2 = nI (7 + L2) from nI_add 7 L2, nI_clamp (show 7 + L2 < 2 ^ 31 by omega), hcell3 L2 (by omega), if_neg (by omega)]
                  have hc9 := h92 L2
                  refine ⟨fun z => absurd z (nI_pos (by omega)), fun _ => ⟨vp_in_nI (by omega) (by omega), fun z => absurd z (nI_ne0 (by omega) (by omega)), fun _ => ?_⟩⟩
                  unfold wjX7_goes_211 wjX7_goes_220
                  refine ⟨fun z => absurd z (nI_pos (by omega)), fun _ => ⟨fun z => absurd z (by decide), fun _ => ?_⟩⟩
                  rw [eS1, show (7 : Int32) + nI (2 ^ K - 1) = nI (7 + (2 ^ K - 1)) from nI_add 7 _, nI_clamp (show 7 + (2 ^ K - 1) < 2 ^ 31 by omega), show (7 : Int32) + nI L2 = nI (7 + L2) from nI_add 7 L2, nI_clamp (show 7 + L2 < 2 ^ 31 by omega), hcell3 L2 (by omega), if_neg (show ¬ L2 = 2 ^ K - 1 by omega), hcell2 (2 ^ K - 1) (by omega), nI_add, nI_1]
                  have ed : nI (c L2) - 1 = nI (c L2 - 1) := by obtain ⟨q, hq⟩ : ∃ q, c L2 = q + 1 := ⟨c L2 - 1, by omega⟩; rw [hq]; exact nI_pred q
                  rw [ed]
                  have htn2 : tot (fun s => if s = 2 ^ K - 1 then 0 else if s = L2 then c s - 1 else c s) (2 ^ K) = tot c (2 ^ K) - (c (2 ^ K - 1) : Int) - 1 := by
                    have q1 := tot_chg (f := c) (g := fun s => if s = 2 ^ K - 1 then 0 else c s) (s := 2 ^ K - 1) (n := 2 ^ K) (fun s hs => if_neg hs) (by omega)
                    have q2 := tot_chg (f := fun s => if s = 2 ^ K - 1 then 0 else c s) (g := fun s => if s = 2 ^ K - 1 then 0 else if s = L2 then c s - 1 else c s) (s := L2) (n := 2 ^ K) (fun s hs => by
                      by_cases e : s = 2 ^ K - 1
                      · rw [if_pos e, if_pos e]
                      · rw [if_neg e, if_neg e, if_neg hs]) (by omega)
                    rw [if_pos rfl] at q1
                    rw [if_neg (show ¬ L2 = 2 ^ K - 1 by omega), if_neg (show ¬ L2 = 2 ^ K - 1 by omega), if_pos rfl] at q2
                    omega
                  have hmv : mvl (fun s => if s = 2 ^ K - 1 then 0 else if s = L2 then c s - 1 else c s) (L2 + 1) + 1 = mvl c (L2 + 1) := by
                    rw [mvl, mvl, mvl_cong (t' := c) (fun i hi => by rw [if_neg (show ¬ i = 2 ^ K - 1 by omega), if_neg (show ¬ i = L2 by omega)]), if_neg (show ¬ L2 = 2 ^ K - 1 by omega), if_pos rfl]
                    omega
                  have hlt : (mvl (fun s => if s = 2 ^ K - 1 then 0 else if s = L2 then c s - 1 else c s) (L2 + 1) + 1) * 10 ^ (2 ^ K - 1 - L2) < m := by
                    have m1 := (mvl_b h92 (a := L2 + 1) (2 ^ K - 1 - L2)).1
                    have m2 := (mvl_b h92 (a := L + 1) (2 ^ K - 1 - L)).2
                    rw [show L2 + 1 + (2 ^ K - 1 - L2) = 2 ^ K by omega] at m1
                    rw [show L + 1 + (2 ^ K - 1 - L) = 2 ^ K by omega, mvl_cong (m := L + 1) (t' := t) (fun i hi => hpre i (by omega))] at m2
                    rw [hmv, hm]; omega
                  refine ⟨vp_in_nI (by omega) (by omega), vp_in_nI (by omega) (by omega), hag _ _ hlt ⟨upd (upd g2 (7 + (2 ^ K - 1)) 0) (7 + L2) (nI (c L2 - 1)), tb2, w2, p2, fi2, gr2, gs2, fun q hq => by rw [pk_un (by omega)]; exact hq3 q hq, Or.inl ⟨fun s => if s = 2 ^ K - 1 then 0 else if s = L2 then c s - 1 else c s, L2, lf2 + c (2 ^ K - 1) + 1, rfl, by omega, fun s hs => ?_, fun s => ?_, ?_, fun s hs => ?_, JM_cong (fun u => ?_) hj3, rfl⟩⟩⟩
                  · dsimp only
                    by_cases e : s = 2 ^ K - 1
                    · rw [if_pos e]
                    · rw [if_neg e, if_neg (by omega)]
                      rcases Nat.lt_or_ge s (2 ^ K - 1) with h | h
                      · exact b3 s hs h
                      · exact hz2 s (by omega)
                  · have := h92 s
                    dsimp only
                    split
                    · omega
                    · split <;> omega
                  · rw [htn2]; omega
                  · by_cases e : s = L2
                    · subst e; dsimp only; rw [pk_us, if_neg (show ¬ s = 2 ^ K - 1 by omega), if_pos rfl]
                    · rw [pk_un (by omega), hcell3 s hs]
                      by_cases e2 : s = 2 ^ K - 1
                      · dsimp only; rw [if_pos e2, if_pos e2]
                      · dsimp only; rw [if_neg e2, if_neg e2, if_neg e]
                  · have tl : ∀ i, i < L2 → (fun s => if s = 2 ^ K - 1 then 0 else if s = L2 then c s - 1 else c s) i = c i := fun i hi => by
                      dsimp only; rw [if_neg (show ¬ i = 2 ^ K - 1 by omega), if_neg (show ¬ i = L2 by omega)]
                    have tL : (fun s => if s = 2 ^ K - 1 then 0 else if s = L2 then c s - 1 else c s) L2 = c L2 - 1 := by
                      dsimp only; rw [if_neg (show ¬ L2 = 2 ^ K - 1 by omega), if_pos rfl]
                    constructor
                    · rintro (⟨hu, j, j1, j2, j3⟩ | ⟨z1, z2⟩)
                      · rcases Nat.lt_or_ge j L2 with e | e
                        · exact ⟨hu, j, by omega, fun i hi => by rw [j2 i hi, tl i (by omega)], by rw [tl j e]; exact j3⟩
                        · refine ⟨hu, L2, Nat.le_refl _, fun i hi => by rw [j2 i (by omega), tl i hi], ?_⟩
                          rw [tL]
                          rcases Nat.lt_or_ge L2 j with e2 | e2
                          · rw [j2 L2 e2]; omega
                          · rw [show j = L2 by omega] at j3; omega
                      · subst z2
                        refine ⟨⟨h92, fun s hs => hz2 s (by omega), by omega⟩, L2, Nat.le_refl _, fun i hi => (tl i hi).symm, by rw [tL]; omega⟩
                    · rintro ⟨hu, j, j1, j2, j3⟩
                      rcases Nat.lt_or_ge j L2 with e | e
                      · exact Or.inl ⟨hu, j, by omega, fun i hi => by rw [j2 i hi, tl i (by omega)], by rw [tl j e] at j3; exact j3⟩
                      · have ej : j = L2 := by omega
                        subst ej
                        rw [tL] at j3
                        have hpre2 : ∀ i, i < j → u i = c i := fun i hi => by rw [j2 i hi, tl i hi]
                        by_cases e2 : u j = c j
                        · exact leaf_all hS2 (show j + 1 ≤ 2 ^ K - 1 by omega) (fun s h1 h2 => b3 s (by omega) h2) (fun s hs => hz2 s (by omega)) htot2 hu (fun i hi => by
                            by_cases e3 : i = j
                            · subst e3; exact e2
                            · exact hpre2 i (by omega))
                        · exact Or.inl ⟨hu, j, by omega, hpre2, by omega⟩
            refine pk_le (2 ^ K - 1) (2 ^ K - 1) (fun _ => pk_eq lf2 0 (fun z => ?_) (fun z => ?_)) (fun z => absurd z (by omega))
            · subst z
              have hvc : vpl (2 ^ K) N c := ⟨h92, fun s hs => hz2 s (by omega), by omega⟩
              refine wp_weighs hK hn1 hn hN hte (D := DM (2 ^ K) N c (2 ^ K - 1)) (fun v hv => hv.1) hvc (fun hD => ?_) (fun v hv => ?_) (g := g2) ⟨by rw [hq2 0 (by omega)]; exact hg0, by rw [hq2 1 (by omega)]; exact hg1, fun i hi => by rw [hq2 _ (by omega)]; exact hg2 i hi, hcell2⟩ hj2 (fun tb2 w2 p2 fi2 gr2 gs2 hj3 => back tb2 w2 p2 fi2 gr2 gs2 (JM_cong (fun u => ⟨fun z => z.elim Or.inl (fun z => Or.inr ⟨rfl, z⟩), fun z => z.elim Or.inl (fun z => Or.inr z.2)⟩) hj3))
              · obtain ⟨_, j, _, _, j3⟩ := hD; omega
              · obtain ⟨_, j, _, j2, j3⟩ := hv; exact ⟨j, j2, j3⟩
            · exact back _ _ _ _ _ _ (JM_cong (fun u => ⟨Or.inl, fun q => q.elim id (fun q => absurd q.1 z)⟩) hj2)
        · rw [wbX7_goes_97]
          refine ⟨fun _ => ?_, fun z => absurd rfl z⟩
          refine wloop_n (fun i st => ∃ g3, st = (nI i, g3) ∧ (∀ q, q < 7 ∨ 71 ≤ q → g3 q = g q) ∧ ∀ s, s < i → g3 (7 + s) = g (7 + s)) 64 ⟨g', rfl, hq1, fun s hs => absurd hs (Nat.not_lt_zero _)⟩ ?_ ?_
          · rintro i st again3 hi ⟨g3, rfl, q1, q2⟩ hag3
            rw [wbX7_goes_259, show (7 : Int32) + nI i = nI (7 + i) from nI_add 7 i, nI_clamp (show 7 + i < 2 ^ 31 by omega), nI_clamp (show i < 2 ^ 31 by omega), nI_1, (h2 i hi).2]
            refine pk_le 64 i (fun z => absurd z (by omega)) (fun _ => ⟨vp_in_nI (by omega) (by omega), vp_in_nI (by omega) (by omega), hag3 _ ⟨_, rfl, fun q hq => by rw [pk_un (by omega)]; exact q1 q hq, fun s hs => ?_⟩⟩)
            by_cases e : s = i
            · subst e; rw [pk_us]
            · rw [pk_un (by omega)]; exact q2 s (by omega)
          · rintro st again3 ⟨g3, rfl, q1, q2⟩
            rw [wbX7_goes_259]
            refine pk_le 64 64 (fun _ => h _ _ _ _ _ _ _ _ (fun q hq => ?_) hj) (fun z => absurd z (by omega))
            by_cases e : q < 7 ∨ 71 ≤ q
            · exact q1 q e
            · have := q2 (q - 7) (by omega)
              rwa [show 7 + (q - 7) = q by omega] at this
    refine pk_le N 9 (fun z => main N (by omega)) (fun z => main 9 (by omega))
