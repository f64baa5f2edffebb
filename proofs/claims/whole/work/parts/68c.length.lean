/-! the steps alike, alikeOf, length -/
theorem ind_t {P : Prop} (h : P) : ind P = 1 := by unfold ind; exact if_pos h
theorem ind_f {P : Prop} (h : ¬ P) : ind P = 0 := by unfold ind; exact if_neg h
theorem ind_c {P Q : Prop} (h : P ↔ Q) : ind P = ind Q := by rw [propext h]
theorem ind_01 (P : Prop) : 0 ≤ ind P ∧ ind P ≤ 1 := by
  by_cases h : P
  · rw [ind_t h]; decide
  · rw [ind_f h]; decide
theorem sm_invol {N : Nat} {τ : Nat → Nat} (h1 : ∀ x, x < N → τ x < N) (h2 : ∀ x, x < N → τ (τ x) = x) (f : Nat → Int) : sm N (fun x => f (τ x)) = sm N f := by
  have e1 : sm N (fun x => f (τ x)) = sm N (fun x => sm N (fun y => if y = τ x then f y else 0)) := sm_congr (fun x hx => by
    rw [sm_single (k := τ x) (h1 x hx) (fun y _ hne => if_neg hne), if_pos rfl])
  rw [e1, sm_swap]
  refine sm_congr (fun y hy => ?_)
  rw [sm_single (k := τ y) (h1 y hy) (fun x hx hne => if_neg (fun e => hne (by rw [e, h2 x hx]))), if_pos (h2 y hy).symm]
theorem sm_split (a : Nat) (f : Nat → Int) : ∀ b, sm (a + b) f = sm a f + sm b (fun k => f (a + k))
  | 0 => by simp [sm]
  | b + 1 => by rw [show a + (b + 1) = (a + b) + 1 by omega, sm, sm_split a f b, sm]; omega
theorem sp_xor {wo : Nat → Nat} {b : Nat} : ∀ {m u v : Nat}, sp wo b m u → sp wo b m v → sp wo b m (u ^^^ v)
  | 0, u, v, h1, h2 => by
    have e1 : u = 0 := h1
    have e2 : v = 0 := h2
    subst e1 e2; rfl
  | m + 1, u, v, h1, h2 => by
    rcases h1 with h1 | ⟨a, b', h1⟩ <;> rcases h2 with h2 | ⟨c, d, h2⟩
    · exact Or.inl (sp_xor h1 h2)
    · exact Or.inr ⟨c, d, by rw [Nat.xor_assoc]; exact sp_xor h1 h2⟩
    · exact Or.inr ⟨a, b', by rw [xor_r]; exact sp_xor h1 h2⟩
    · refine Or.inl ?_
      have := sp_xor h1 h2
      rwa [show u ^^^ wo m ^^^ (v ^^^ wo m) = u ^^^ v by rw [← Nat.xor_assoc, xor_r u (wo m) v, Nat.xor_assoc (u ^^^ v), Nat.xor_self, Nat.xor_zero]] at this
theorem sp_lt {wo : Nat → Nat} {b K : Nat} (hw : ∀ i, wo i < 2 ^ K) : ∀ {m u : Nat}, sp wo b m u → u < 2 ^ K
  | 0, u, h => by have e : u = 0 := h
                  subst e; exact Nat.two_pow_pos K
  | m + 1, u, h => by
    rcases h with h | ⟨_, _, h⟩
    · exact sp_lt hw h
    · have := sp_lt hw h
      have h2 := xor_lt2 this (hw m)
      rwa [xor_xor] at h2
theorem pf_sum {K : Nat} {wo : Nat → Nat} (hw : ∀ i, wo i < 2 ^ K) (hin : IN wo) : ∀ m, m ≤ 4 → ∀ φ : Nat → Int, sm (2 ^ pn wo 4 m) (fun k => φ (pf wo 4 m k)) = sm (2 ^ K) (fun t => ind (sp wo 4 m t) * φ t)
  | 0, _, φ => by
    have hp := Nat.two_pow_pos K
    rw [sm_single (n := 2 ^ K) (k := 0) hp (fun t _ hne => by rw [ind_f (show ¬ sp wo 4 0 t from hne)]; simp), ind_t (show sp wo 4 0 0 from rfl)]
    show sm 1 _ = _
    simp [sm, pf]
  | m + 1, hm, φ => by
    by_cases c : m ≠ 4 ∧ wo m ≠ 0
    · have ep : pn wo 4 (m + 1) = pn wo 4 m + 1 := by rw [pn, if_pos c]
      have ef : ∀ k, pf wo 4 (m + 1) k = if k < 2 ^ pn wo 4 m then pf wo 4 m k else pf wo 4 m (k - 2 ^ pn wo 4 m) ^^^ wo m := fun k => by rw [pf, if_pos c]
      rw [ep, Nat.pow_succ, Nat.mul_two, sm_split]
      rw [sm_congr (f := fun k => φ (pf wo 4 (m + 1) k)) (g := fun k => φ (pf wo 4 m k)) (fun k hk => by rw [ef, if_pos hk])]
      rw [sm_congr (f := fun k => φ (pf wo 4 (m + 1) (2 ^ pn wo 4 m + k))) (g := fun k => (fun t => φ (t ^^^ wo m)) (pf wo 4 m k)) (fun k hk => by rw [ef, if_neg (by omega), Nat.add_sub_cancel_left])]
      rw [pf_sum hw hin m (by omega) φ, pf_sum hw hin m (by omega) (fun t => φ (t ^^^ wo m))]
      rw [← sm_invol (τ := fun t => t ^^^ wo m) (fun t ht => xor_lt2 ht (hw m)) (fun t _ => xor_xor t (wo m)) (fun t => ind (sp wo 4 m t) * φ (t ^^^ wo m)), ← sm_add]
      refine sm_congr (fun t _ => ?_)
      rw [xor_xor, ← Int.add_mul]
      congr 1
      by_cases h1 : sp wo 4 m t
      · by_cases h2 : sp wo 4 m (t ^^^ wo m)
        · exfalso
          refine hin m (by omega) c.2 ?_
          have := sp_xor h1 h2
          rwa [← Nat.xor_assoc, Nat.xor_self, Nat.zero_xor] at this
        · rw [ind_t h1, ind_f h2, ind_t (show sp wo 4 (m + 1) t from Or.inl h1)]; rfl
      · by_cases h2 : sp wo 4 m (t ^^^ wo m)
        · rw [ind_f h1, ind_t h2, ind_t (show sp wo 4 (m + 1) t from Or.inr ⟨c.1, c.2, h2⟩)]; rfl
        · rw [ind_f h1, ind_f h2, ind_f (show ¬ sp wo 4 (m + 1) t from fun z => z.elim h1 (fun z => h2 z.2.2))]; rfl
    · have ep : pn wo 4 (m + 1) = pn wo 4 m := by rw [pn, if_neg c]; rfl
      rw [ep, sm_congr (f := fun k => φ (pf wo 4 (m + 1) k)) (g := fun k => φ (pf wo 4 m k)) (fun k _ => by rw [pf, if_neg c]), pf_sum hw hin m (by omega) φ]
      refine sm_congr (fun t _ => ?_)
      rw [ind_c (show sp wo 4 m t ↔ sp wo 4 (m + 1) t from ⟨Or.inl, fun z => z.elim id (fun z => absurd ⟨z.1, z.2.1⟩ c)⟩)]
theorem cn_sm (f : Nat → Nat) (w : Nat) : ∀ N, (cn f w N : Int) = sm N (fun k => if f k = w then 1 else 0)
  | 0 => rfl
  | N + 1 => by rw [cn, sm, ← cn_sm f w N]; split <;> simp
theorem lb_step_19 (x : XS) (y : MS) (a1 : Int32) (h : LInv x y) : ∃ bud, bud ≤ 49152 ∧ wpL_19 x y a1 bud (fun x9 y9 => LInv x9 y9 ∧ pot x + bud ≤ pot x9) := by
  refine ⟨0, by omega, ?_⟩
  obtain ⟨hB, hH, hP, hC⟩ := h
  obtain ⟨K, n, te, ti, wo, mk, c, pl, rd, hV, hD, hbg⟩ := BR_open hB
  have hV' := hV
  obtain ⟨⟨hK1, hK6⟩, ⟨hn1, hn5⟩, hte, hdi, hti, htz, htot, hwo, hin, hmk, hc, hpl, hrd⟩ := hV'
  have hD' := hD
  obtain ⟨d1, d2, d3, d4, d5, d6, d7, d8, d9, d10, d11⟩ := hD'
  have h64 := p64 hK6
  have hw6 : ∀ i, wo i < 64 := fun i => by have := hwo i; omega
  unfold wpL_19 wpX6_alike
  refine wp_hasX (by omega) d1 a1 (fun t ht et => ⟨fun z => absurd z (by decide), fun _ => ?_⟩) (fun hno => ⟨fun _ => ?_, fun z => absurd rfl z⟩)
  · refine wp_wc hw6 d8 ?_
    have hpn := pn_le wo 4 4
    rw [(shl_tab _ (show pn wo 4 4 < 7 by omega)).1]
    unfold wpM_19 wpX7_alike
    refine hbg _ (fun g b hb hG => wp_isM (by omega) hG.1 _ (fun _ _ _ => ⟨fun z => absurd z (by decide), fun _ => ?_⟩) (fun hno => absurd et (hno t ht)))
    exact wp_mult hw6 hG.2.2.2.2.1 nob (fun f hf => ⟨fun _ => ⟨⟨Or.inl ⟨hb, K, n, te, ti, wo, mk, c, pl, rd, hV, hD, hG⟩, hH, hP, hC⟩, Nat.le_refl _⟩, fun z => z rfl⟩)
  · unfold wpM_19 wpX7_alike
    exact hbg _ (fun g b hb hG => wp_isM (by omega) hG.1 _ (fun j hj e => absurd e (hno j hj)) (fun _ => ⟨fun _ => ⟨fun _ => ⟨⟨Or.inl ⟨hb, K, n, te, ti, wo, mk, c, pl, rd, hV, hD, hG⟩, hH, hP, hC⟩, Nat.le_refl _⟩, fun z => z rfl⟩, fun z => absurd rfl z⟩))
def mbn (mb : Nat → Bool) (u : Nat) : Nat := cn (fun v => if mb v = true then 1 else 0) 1 u
theorem mbn_t {mb : Nat → Bool} {u : Nat} (h : mb u = true) : mbn mb (u + 1) = mbn mb u + 1 := by unfold mbn; rw [cn, if_pos (by rw [if_pos h])]
theorem mbn_f {mb : Nat → Bool} {u : Nat} (h : mb u = false) : mbn mb (u + 1) = mbn mb u := by unfold mbn; rw [cn, if_neg (by rw [h]; decide)]; rfl
theorem lb_step_20 (x : XS) (y : MS) (a1 : Int32) (a2 : Int32) (h : LInv x y) : ∃ bud, bud ≤ 49152 ∧ wpL_20 x y a1 a2 bud (fun x9 y9 => LInv x9 y9 ∧ pot x + bud ≤ pot x9) := by
  refine ⟨0, by omega, ?_⟩
  obtain ⟨hB, hH, hP, hC⟩ := h
  obtain ⟨K, n, te, ti, wo, mk, c, pl, rd, hV, hD, hbg⟩ := BR_open hB
  have hV' := hV
  obtain ⟨⟨hK1, hK6⟩, ⟨hn1, hn5⟩, hte, hdi, hti, htz, htot, hwo, hin, hmk, hc, hpl, hrd⟩ := hV'
  have hD' := hD
  obtain ⟨d1, d2, d3, d4, d5, d6, d7, d8, d9, d10, d11⟩ := hD'
  have h64 := p64 hK6
  have hw6 : ∀ i, wo i < 64 := fun i => by have := hwo i; omega
  unfold wpL_20 wpX6_alikeOf
  refine wp_hasX (by omega) d1 a1 (fun t ht et => ⟨fun z => absurd z (by decide), fun _ => ?_⟩) (fun hno => ⟨fun _ => ?_, fun z => absurd rfl z⟩)
  · subst et
    refine ⟨fun z0 => ?_, fun z0 => ?_⟩
    · refine wp_prods hw6 d8 nob (fun P hPb => wp_settX (by omega) d1 ?_)
      have R : ∀ res : Int32, ((∃ u, u < 2 ^ K ∧ bt P (t ^^^ u) = true ∧ nI (mbn (fun v => bt P (t ^^^ v)) u) = a2 ∧ (∀ v, v < u → bt P (t ^^^ v) = true → nI (mbn (fun v => bt P (t ^^^ v)) v) ≠ a2) ∧ res = nI u) ∨ ((∀ v, v < 2 ^ K → bt P (t ^^^ v) = true → nI (mbn (fun v => bt P (t ^^^ v)) v) ≠ a2) ∧ res = -1)) → wpM_20 y (nI t) a2 res (fun y9 => LInv x y9 ∧ pot x + 0 ≤ pot x) := by
        intro res hres
        unfold wpM_20 wpX7_alikeOf
        refine hbg _ (fun g b hb hG => wp_isM (by omega) hG.1 _ (fun _ _ _ => ⟨fun z => absurd z (by decide), fun _ => ⟨fun _ => ?_, fun z => absurd z0 z⟩⟩) (fun hno => absurd rfl (hno t ht)))
        refine wp_mult hw6 hG.2.2.2.2.1 nob (fun f hf => ?_)
        refine wloop_n (fun u st => st = (nI (mbn (fun v => bt P (t ^^^ v)) u), nI u) ∧ ∀ v, v < u → bt P (t ^^^ v) = true → nI (mbn (fun v => bt P (t ^^^ v)) v) ≠ a2) (2 ^ K) ⟨rfl, fun v hv => absurd hv (Nat.not_lt_zero _)⟩ ?_ ?_
        · rintro u st again hu ⟨rfl, hv⟩ hag
          rw [wbX7_alikeOf_33]
          refine wp_settM (by omega) hG.1 (pk_le (2 ^ K) u (fun z => absurd z (by omega)) (fun _ => ?_))
          rw [xor_tab u (by omega) t (by omega), Nat.xor_comm u t]
          have hx := xor64 (show t < 64 by omega) (show u < 64 by omega)
          refine wp_isProdS hw6 hx hf (fun hs => ⟨fun z => absurd z (by decide), fun _ => ?_⟩) (fun hs => ⟨fun _ => ?_, fun z => absurd rfl z⟩)
          · have hb1 := (hPb _ hx).2 hs
            refine ⟨fun z => ⟨fun _ => ⟨⟨Or.inl ⟨hb, K, n, te, ti, wo, mk, c, pl, rd, hV, hD, hG⟩, hH, hP, hC⟩, Nat.le_refl _⟩, fun z2 => z2 ?_⟩, fun z => ?_⟩
            · rcases hres with ⟨u', h1, h2, h3, h4, h5⟩ | ⟨h1, h2⟩
              · rw [h5]
                rcases Nat.lt_trichotomy u u' with e | e | e
                · exact absurd z (h4 u e hb1)
                · rw [e]
                · exact absurd h3 (hv u' e h2)
              · exact absurd z (h1 u hu hb1)
            · rw [nI_1, nI_1]
              refine hag _ ⟨by rw [mbn_t (mb := fun v => bt P (t ^^^ v)) (u := u) hb1], fun v hv2 hb2 => ?_⟩
              by_cases e : v = u
              · subst e; exact z
              · exact hv v (by omega) hb2
          · have hb1 : bt P (t ^^^ u) = false := by
              cases hb2 : bt P (t ^^^ u) with
              | false => rfl
              | true => exact absurd ((hPb _ hx).1 hb2) hs
            rw [nI_1]
            refine hag _ ⟨by rw [mbn_f (mb := fun v => bt P (t ^^^ v)) (u := u) hb1], fun v hv2 hb2 => ?_⟩
            by_cases e : v = u
            · subst e; rw [hb1] at hb2; exact absurd hb2 (by decide)
            · exact hv v (by omega) hb2
        · rintro st again ⟨rfl, hv⟩
          rw [wbX7_alikeOf_33]
          refine wp_settM (by omega) hG.1 (pk_le (2 ^ K) (2 ^ K) (fun _ => ⟨fun _ => ⟨⟨Or.inl ⟨hb, K, n, te, ti, wo, mk, c, pl, rd, hV, hD, hG⟩, hH, hP, hC⟩, Nat.le_refl _⟩, fun z => z ?_⟩) (fun z => absurd z (by omega)))
          rcases hres with ⟨u', h1, h2, h3, h4, h5⟩ | ⟨h1, h2⟩
          · exact absurd h3 (hv u' h1 h2)
          · exact h2
      refine wloop_n (fun u st => st = (nI (mbn (fun v => bt P (t ^^^ v)) u), nI u) ∧ ∀ v, v < u → bt P (t ^^^ v) = true → nI (mbn (fun v => bt P (t ^^^ v)) v) ≠ a2) (2 ^ K) ⟨rfl, fun v hv => absurd hv (Nat.not_lt_zero _)⟩ ?_ ?_
      · rintro u st again hu ⟨rfl, hv⟩ hag
        rw [wbX6_alikeOf_41]
        refine pk_le (2 ^ K) u (fun z => absurd z (by omega)) (fun _ => ?_)
        rw [xor_tab t (by omega) u (by omega), nI_1, nI_1]
        refine wp_hasMem P (xor64 (by omega) (by omega)) (fun hb => ⟨fun z => absurd z (by decide), fun _ => ⟨fun z => R _ (Or.inl ⟨u, hu, hb, z, hv, rfl⟩), fun z => hag _ ⟨by rw [mbn_t (mb := fun v => bt P (t ^^^ v)) (u := u) hb], fun v hv2 hb2 => ?_⟩⟩⟩) (fun hb => ⟨fun _ => hag _ ⟨by rw [mbn_f (mb := fun v => bt P (t ^^^ v)) (u := u) hb], fun v hv2 hb2 => ?_⟩, fun z => absurd rfl z⟩)
        · by_cases e : v = u
          · subst e; exact z
          · exact hv v (by omega) hb2
        · by_cases e : v = u
          · subst e; rw [hb] at hb2; exact absurd hb2 (by decide)
          · exact hv v (by omega) hb2
      · rintro st again ⟨rfl, hv⟩
        rw [wbX6_alikeOf_41]
        exact pk_le (2 ^ K) (2 ^ K) (fun _ => R _ (Or.inr ⟨hv, rfl⟩)) (fun z => absurd z (by omega))
    · unfold wpM_20 wpX7_alikeOf
      exact hbg _ (fun g b hb hG => wp_isM (by omega) hG.1 _ (fun _ _ _ => ⟨fun z => absurd z (by decide), fun _ => ⟨fun z => absurd z z0, fun _ => ⟨fun _ => ⟨⟨Or.inl ⟨hb, K, n, te, ti, wo, mk, c, pl, rd, hV, hD, hG⟩, hH, hP, hC⟩, Nat.le_refl _⟩, fun z => z rfl⟩⟩⟩) (fun hno => absurd rfl (hno t ht)))
  · unfold wpM_20 wpX7_alikeOf
    exact hbg _ (fun g b hb hG => wp_isM (by omega) hG.1 _ (fun j hj e => absurd e (hno j hj)) (fun _ => ⟨fun _ => ⟨fun _ => ⟨⟨Or.inl ⟨hb, K, n, te, ti, wo, mk, c, pl, rd, hV, hD, hG⟩, hH, hP, hC⟩, Nat.le_refl _⟩, fun z => z rfl⟩, fun z => absurd rfl z⟩))
theorem wp_withF {q : Nat} (hq : q ≤ 16) {pr : Nat → Nat} (hpr : ∀ k, pr k < 64) {w : Nat} (hw : w < 64) {product : Nat → Int32} (hp : ∀ k, k < q → product k = nI (pr k)) {k : Int32 → Prop} (h : k (nI (cn (fun j => pc (pr j)) w q))) : wpX7_withFactors (nI q) product (nI w) k := by
  unfold wpX7_withFactors
  refine wloop_n (fun i st => st = (nI (cn (fun j => pc (pr j)) w i), nI i)) q rfl ?_ ?_
  · rintro i st again hi rfl hag
    rw [wbX7_withFactors_4]
    refine pk_le q i (fun z => absurd z (by omega)) (fun _ => ⟨vp_in_nI (by omega) (by omega), ?_⟩)
    rw [nI_clamp (by omega), hp i hi, nI_1, nI_1]
    have := pc_le _ (hpr i)
    refine wp_ones (hpr i) (pk_eq (pc (pr i)) w (fun z => hag _ ?_) (fun z => hag _ ?_))
    · rw [cn, if_pos z]
    · rw [cn, if_neg z]; rfl
  · rintro st again rfl
    rw [wbX7_withFactors_4]
    exact pk_le q q (fun _ => h) (fun z => absurd z (by omega))
/-- the fewest FACTORS, as the class finds them, as the reference does -/
def lfm (mb : Nat → Bool) : Nat → Nat
  | 0 => 0
  | i + 1 => if mb (i + 1) = true then (if lfm mb i = 0 then pc (i + 1) else if pc (i + 1) < lfm mb i then pc (i + 1) else lfm mb i) else lfm mb i
def rlm (W : Nat → Nat) : Nat → Nat
  | 0 => 0
  | j + 1 => if W (6 - j) = 0 then rlm W j else 6 - j
theorem lfm_ok (mb : Nat → Bool) : ∀ i, i < 64 → (lfm mb i = 0 ∧ ∀ t, 1 ≤ t → t ≤ i → mb t = false) ∨ (1 ≤ lfm mb i ∧ lfm mb i ≤ 6 ∧ (∃ t, 1 ≤ t ∧ t ≤ i ∧ mb t = true ∧ pc t = lfm mb i) ∧ ∀ t, 1 ≤ t → t ≤ i → mb t = true → lfm mb i ≤ pc t)
  | 0, _ => Or.inl ⟨rfl, fun t h1 h2 => absurd h2 (by omega)⟩
  | i + 1, hi => by
    have ih := lfm_ok mb i (by omega)
    have hp := (tb7 (i + 1) hi (by omega))
    rw [lfm]
    cases hb : mb (i + 1) with
    | false =>
      rw [if_neg (by decide)]
      rcases ih with ⟨h1, h2⟩ | ⟨h1, h1', ⟨t, t1, t2, t3, t4⟩, h3⟩
      · refine Or.inl ⟨h1, fun t ht1 ht2 => ?_⟩
        by_cases e : t = i + 1
        · subst e; exact hb
        · exact h2 t ht1 (by omega)
      · refine Or.inr ⟨h1, h1', ⟨t, t1, by omega, t3, t4⟩, fun t ht1 ht2 hm => ?_⟩
        by_cases e : t = i + 1
        · subst e; rw [hb] at hm; exact absurd hm (by decide)
        · exact h3 t ht1 (by omega) hm
    | true =>
      rw [if_pos rfl]
      rcases ih with ⟨h1, h2⟩ | ⟨h1, h1', ⟨t, t1, t2, t3, t4⟩, h3⟩
      · rw [if_pos h1]
        refine Or.inr ⟨hp.1, hp.2, ⟨i + 1, by omega, by omega, hb, rfl⟩, fun t ht1 ht2 hm => ?_⟩
        by_cases e : t = i + 1
        · subst e; exact Nat.le_refl _
        · rw [h2 t ht1 (by omega)] at hm; exact absurd hm (by decide)
      · rw [if_neg (by omega)]
        by_cases c : pc (i + 1) < lfm mb i
        · rw [if_pos c]
          refine Or.inr ⟨hp.1, hp.2, ⟨i + 1, by omega, by omega, hb, rfl⟩, fun t ht1 ht2 hm => ?_⟩
          by_cases e : t = i + 1
          · subst e; exact Nat.le_refl _
          · have := h3 t ht1 (by omega) hm; omega
        · rw [if_neg c]
          refine Or.inr ⟨h1, h1', ⟨t, t1, by omega, t3, t4⟩, fun t ht1 ht2 hm => ?_⟩
          by_cases e : t = i + 1
          · subst e; omega
          · exact h3 t ht1 (by omega) hm
theorem rlm_ok (W : Nat → Nat) : ∀ j, j ≤ 6 → (rlm W j = 0 ∧ ∀ k, 6 - j < k → k ≤ 6 → W k = 0) ∨ (6 - j < rlm W j ∧ rlm W j ≤ 6 ∧ W (rlm W j) ≠ 0 ∧ ∀ k, 6 - j < k → k < rlm W j → W k = 0)
  | 0, _ => Or.inl ⟨rfl, fun k h1 h2 => absurd h2 (by omega)⟩
  | j + 1, hj => by
    have ih := rlm_ok W j (by omega)
    rw [rlm]
    by_cases c : W (6 - j) = 0
    · rw [if_pos c]
      rcases ih with ⟨h1, h2⟩ | ⟨h1, h2, h3, h4⟩
      · refine Or.inl ⟨h1, fun k k1 k2 => ?_⟩
        by_cases e : k = 6 - j
        · subst e; exact c
        · exact h2 k (by omega) k2
      · refine Or.inr ⟨by omega, h2, h3, fun k k1 k2 => ?_⟩
        by_cases e : k = 6 - j
        · subst e; exact c
        · exact h4 k (by omega) k2
    · rw [if_neg c]
      exact Or.inr ⟨by omega, by omega, c, fun k k1 k2 => absurd k2 (by omega)⟩
