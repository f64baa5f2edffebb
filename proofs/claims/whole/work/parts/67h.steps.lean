/-! the step needed -/
theorem sm_chg {f g : Nat → Int} {s : Nat} (h : ∀ t, t ≠ s → g t = f t) : ∀ {n : Nat}, s < n → sm n g = sm n f - f s + g s
  | 0, hn => absurd hn (Nat.not_lt_zero _)
  | n + 1, hn => by
    rw [sm, sm]
    by_cases e : s = n
    · subst e
      rw [sm_congr (fun i hi => h i (by omega))]; omega
    · rw [sm_chg h (n := n) (by omega), h n (fun z => e z.symm)]; omega
theorem tbp_chg {n : Nat} {te ti ti' : Nat → Nat} {s x : Nat} (hs : s < x) (h : ∀ t, t ≠ s → ti' t = ti t) {i j : Nat} (hi : i < n) (hj : j < n) : tbp n te id ti' x i j = tbp n te id ti x i j + ((ti' s : Int) - ti s) * (ch (te i) s * ch (te j) s) := by
  unfold tbp
  rw [if_pos ⟨hi, hj⟩, if_pos ⟨hi, hj⟩]
  rw [sm_chg (f := fun y => (ti y : Int) * ch (te i) (id y) * ch (te j) (id y)) (s := s) (fun t ht => by rw [h t ht]) hs]
  show _ - (ti s : Int) * ch (te i) s * ch (te j) s + (ti' s : Int) * ch (te i) s * ch (te j) s = _
  generalize ch (te i) s = a
  generalize ch (te j) s = b
  generalize (ti s : Int) = c
  generalize (ti' s : Int) = d
  generalize sm x _ = q
  grind
theorem QQ_abs {n : Nat} {T : Nat → Nat → Int} {ln : Nat → Nat} {r : Nat} (hr : r ≤ 5) (hB : ∀ i j, (T i j).natAbs ≤ 60) {L R : Nat → Int} {B C : Nat} (hl : ∀ a, a < r → ln a < n) (hL : ∀ i, i < n → (L i).natAbs ≤ B) (hR : ∀ i, i < n → (R i).natAbs ≤ C) : (QQ T ln r L R).natAbs ≤ 5 * (5 * (B * 311040000 * C)) := by
  refine Nat.le_trans (sm_abs r _ (5 * (B * 311040000 * C)) (fun a ha => ?_)) (Nat.mul_le_mul_right _ hr)
  refine Nat.le_trans (sm_abs r _ (B * 311040000 * C) (fun b hb => ?_)) (Nat.mul_le_mul_right _ hr)
  rw [Int.natAbs_mul, Int.natAbs_mul]
  exact Nat.mul_le_mul (Nat.mul_le_mul (hL _ (hl a ha)) (Nat.le_trans (adj_abs hB a b) (ab_tab r (by omega)).1)) (hR _ (hl b hb))
def tdc (ti : Nat → Nat) (s : Nat) : Nat → Nat := fun t => if t = s then ti t - 1 else ti t
def ndp (K n : Nat) (te ti : Nat → Nat) (s : Nat) : Nat := if 0 < ti s ∧ (gln (tbp n te id (tdc ti s) (2 ^ K)) n).1 < (gln (tbp n te id ti (2 ^ K)) n).1 then 1 else 0
theorem tdc_tot {ti : Nat → Nat} {s : Nat} (n : Nat) : tot (tdc ti s) n ≤ tot ti n := by
  induction n with
  | zero => exact Int.le_refl _
  | succ n ih =>
    unfold tot at *
    rw [sm, sm]
    have : tdc ti s n ≤ ti n := by unfold tdc; split <;> omega
    omega
theorem lb_step_12 (x : XS) (y : MS)  (h : LInv x y) : ∃ bud, bud ≤ 49152 ∧ wpL_12 x y  bud (fun x9 y9 => LInv x9 y9 ∧ pot x + bud ≤ pot x9) := by
  refine ⟨0, by omega, ?_⟩
  obtain ⟨hB, hH, hP, hC⟩ := h
  obtain ⟨K, n, te, ti, wo, mk, c, pl, rd, hV, hD, hbg⟩ := BR_open hB
  obtain ⟨hps, hbd⟩ := plan_psd hV
  have hV' := hV
  obtain ⟨⟨hK1, hK6⟩, ⟨hn1, hn5⟩, hte, hdi, hti, htz, htot, hwo, hin, hmk, hc, hpl, hrd⟩ := hV'
  have hD' := hD
  obtain ⟨d1, d2, d3, d4, d5, d6, d7, d8, d9, d10, d11⟩ := hD'
  have h64 := p64 hK6
  have hte6 : ∀ i, i < n → te i < 64 := fun i hi => by have := hte i hi; omega
  obtain ⟨q1, q2, q3, q4⟩ := gln_ok hps n (Nat.le_refl _)
  have b5 := DDb (ln := (gln (tbp n te id ti (2 ^ K)) n).2) (show (gln (tbp n te id ti (2 ^ K)) n).1 ≤ 5 by omega) hbd
  have qi := gln_inj hps (Nat.le_refl _)
  have hps' : ∀ s, psd n (tbp n te id (tdc ti s) (2 ^ K)) := fun s => psd_tbp _ _ _ _ _
  have hbd' : ∀ s i j, (tbp n te id (tdc ti s) (2 ^ K) i j).natAbs ≤ 60 := fun s i j => by
    have h := tot_z htz (N := 64) (p64 hK6)
    have h3 := tdc_tot (ti := ti) (s := s) (2 ^ K)
    have h2 : (tbp n te id (tdc ti s) (2 ^ K) i j).natAbs ≤ 40 := tbp_abs (by show tot _ (2 ^ K) ≤ _; omega) i j
    omega
  have hnd : ∀ s, s < 2 ^ K → 0 < ti s → ((gln (tbp n te id (tdc ti s) (2 ^ K)) n).1 < (gln (tbp n te id ti (2 ^ K)) n).1 ↔ QQ (tbp n te id ti (2 ^ K)) (gln (tbp n te id ti (2 ^ K)) n).2 (gln (tbp n te id ti (2 ^ K)) n).1 (fun i => ch (te i) s) (fun i => ch (te i) s) = DD (tbp n te id ti (2 ^ K)) (gln (tbp n te id ti (2 ^ K)) n).2 (gln (tbp n te id ti (2 ^ K)) n).1) := fun s hs h0 => by
    refine needed_iff hn1 hps (hps' s) (fun i j hi hj => ?_)
    rw [tbp_chg (ti' := tdc ti s) (ti := ti) (s := s) hs (fun t ht => by unfold tdc; rw [if_neg ht]) hi hj]
    have : (tdc ti s s : Int) - ti s = -1 := by unfold tdc; rw [if_pos rfl]; omega
    rw [this]
    generalize ch (te i) s * ch (te j) s = a
    omega
  unfold wpL_12 wpX6_needed
  refine wp_sweepPlan (by omega) hn5 hte6 (fun s _ => by have := hti s; omega) hps hbd d1 d2 d6 d7 (fun f sw' h1 h2 => ?_)
  refine wp_settX (by omega) d1 ?_
  refine wloop_n (fun s st => ∃ l, st = (nI (cn (ndp K n te ti) 1 s), nI s, l)) (2 ^ K) ⟨_, rfl⟩ ?_ ?_
  · rintro s st again hs ⟨l, rfl⟩ hag
    have := hti s
    rw [wbX6_needed_16]
    refine pk_le (2 ^ K) s (fun z => absurd z (by omega)) (fun _ => ⟨vp_in_nI (by omega) (by omega), ?_⟩)
    rw [nI_clamp (by omega), d7 s (by omega)]
    refine pk_le (ti s) 0 (fun z => hag _ ⟨l, ?_⟩) (fun z => ?_)
    · rw [cn, nI_1, if_neg]; · rfl
      unfold ndp; rw [if_neg (by omega)]; decide
    · refine wp_spreadAt hn5 hte6 hps.1 qi q2 d2 d6 h1 h2 (by omega) (fun line' => ?_)
      have qb := QQ_abs (n := n) (ln := (gln (tbp n te id ti (2 ^ K)) n).2) (show (gln (tbp n te id ti (2 ^ K)) n).1 ≤ 5 by omega) hbd q2 (L := fun i => ch (te i) s) (R := fun i => ch (te i) s) (fun i _ => ch_abs _ _) (fun i _ => ch_abs _ _)
      rw [lI_inj (by omega) (by omega), ← hnd s hs (by omega), nI_1, nI_1]
      refine ⟨fun z2 => hag _ ⟨line', ?_⟩, fun z2 => hag _ ⟨line', ?_⟩⟩
      · rw [cn, if_pos]; unfold ndp; rw [if_pos ⟨by omega, z2⟩]
      · rw [cn, if_neg]; · rfl
        unfold ndp; rw [if_neg (fun e => z2 e.2)]; decide
  · rintro st again ⟨l, rfl⟩
    rw [wbX6_needed_16]
    refine pk_le (2 ^ K) (2 ^ K) (fun _ => ?_) (fun z => absurd z (by omega))
    unfold wpM_12 wpX7_needed
    refine hbg _ (fun g b hb hG => ?_)
    unfold wpX7_rank
    refine wp_tabP (by omega) hn5 hte6 (fun s _ => by have := hti s; omega) hG.1 hG.2.1 hG.2.2.1 hG.2.2.2.1 (fun f hf => ?_)
    refine wp_find hn5 hbd hG.2.1 (fun i j hi hj => hf i j (by omega) (by omega)) (fun w p l sd un _ => ?_)
    refine wloop_n (fun s st => ∃ g' tb w p li l bs sd un, st = (nI (cn (ndp K n te ti) 1 s), nI s, g', tb, w, p, li, l, bs, sd, un) ∧ RG g' K n te ti wo mk c pl rd) (2 ^ K) ⟨_, _, _, _, _, _, _, _, _, rfl, hG⟩ ?_ ?_
    · rintro s st again hs ⟨g', tb, w, p, li, l, bs, sd, un, rfl, hG'⟩ hag
      have ht9 := hti s
      rw [wbX7_needed_18]
      refine wp_settM (by omega) hG'.1 ?_
      refine pk_le (2 ^ K) s (fun z => absurd z (by omega)) (fun _ => ?_)
      rw [show (7 : Int32) + nI s = nI (7 + s) from nI_add 7 s, nI_clamp (by omega), hG'.2.2.2.1 s (by omega)]
      refine ⟨vp_in_nI (by omega) (by omega), ?_⟩
      refine pk_eq (ti s) 0 (fun z => hag _ ⟨g', tb, w, p, li, l, bs, sd, un, ?_, hG'⟩) (fun z => ⟨vp_in_nI (by omega) (by omega), vp_in_nI (by omega) (by omega), ?_⟩)
      · rw [cn, nI_1, if_neg]; · rfl
        unfold ndp; rw [if_neg (by omega)]; decide
      · have e1 : nI (ti s) - 1 = nI (ti s - 1) := by obtain ⟨m, hm⟩ : ∃ m, ti s = m + 1 := ⟨ti s - 1, by omega⟩; rw [hm]; exact nI_pred m
        rw [e1]
        have G : ∀ q, q ≠ 7 + s → upd g' (7 + s) (nI (ti s - 1)) q = g' q := fun q hq => pk_un hq
        unfold wpX7_rank
        refine wp_tabP (K := K) (ti := tdc ti s) (by omega) hn5 hte6 (fun t _ => by have := hti t; unfold tdc; split <;> omega) (by rw [G _ (by omega)]; exact hG'.1) (by rw [G _ (by omega)]; exact hG'.2.1) (fun i hi => by rw [G _ (by omega)]; exact hG'.2.2.1 i hi) (fun t ht => ?_) (fun f2 hf2 => ?_)
        · unfold tdc
          by_cases e : t = s
          · subst e; rw [if_pos rfl, pk_us]
          · rw [if_neg e, pk_un (by omega)]; exact hG'.2.2.2.1 t ht
        · refine wp_find hn5 (hbd' s) (by rw [G _ (by omega)]; exact hG'.2.1) (fun i j hi hj => hf2 i j (by omega) (by omega)) (fun w2 p2 l2 sd2 un2 _ => ?_)
          have hrr : (gln (tbp n te id (tdc ti s) (2 ^ K)) n).1 ≤ 5 := Nat.le_trans (gln_le _ n).1 hn5
          have hG2 : RG (upd (upd g' (7 + s) (nI (ti s - 1))) (7 + s) (nI (ti s))) K n te ti wo mk c pl rd := RG_congr hn5 hc hG' (fun q _ => by
            by_cases e : q = 7 + s
            · subst e; rw [pk_us]; exact (hG'.2.2.2.1 s (by omega)).symm
            · rw [pk_un e, pk_un e])
          have e2 : nI (ti s - 1) + 1 = nI (ti s) := by rw [nI_1]; congr 1; omega
          unfold wjX7_needed_73
          rw [show (7 : Int32) + nI s = nI (7 + s) from nI_add 7 s, nI_clamp (show 7 + s < 2 ^ 31 by omega), hG'.2.2.2.1 s (by omega), e1, pk_us, e2]
          refine pk_le (gln (tbp n te id ti (2 ^ K)) n).1 (gln (tbp n te id (tdc ti s) (2 ^ K)) n).1 (fun z2 => ⟨vp_in_nI (by omega) (by omega), vp_in_nI (by omega) (by omega), hag _ ⟨_, f2, w2, p2, nI (gln (tbp n te id (tdc ti s) (2 ^ K)) n).1, l2, lI (DD (tbp n te id (tdc ti s) (2 ^ K)) (gln (tbp n te id (tdc ti s) (2 ^ K)) n).2 (gln (tbp n te id (tdc ti s) (2 ^ K)) n).1), sd2, un2, ?_, hG2⟩⟩) (fun z2 => ⟨vp_in_nI (by omega) (by omega), vp_in_nI (by omega) (by omega), hag _ ⟨_, f2, w2, p2, nI (gln (tbp n te id (tdc ti s) (2 ^ K)) n).1, l2, lI (DD (tbp n te id (tdc ti s) (2 ^ K)) (gln (tbp n te id (tdc ti s) (2 ^ K)) n).2 (gln (tbp n te id (tdc ti s) (2 ^ K)) n).1), sd2, un2, ?_, hG2⟩⟩)
          · rw [cn, nI_1, if_neg]; · rfl
            unfold ndp; rw [if_neg (fun e => by omega)]; decide
          · rw [cn, nI_1, nI_1, if_pos]; unfold ndp; rw [if_pos ⟨by omega, z2⟩]
    · rintro st again ⟨g', tb, w, p, li, l, bs, sd, un, rfl, hG'⟩
      rw [wbX7_needed_18]
      refine wp_settM (by omega) hG'.1 ?_
      exact pk_le (2 ^ K) (2 ^ K) (fun _ => ⟨fun _ => ⟨⟨Or.inl ⟨hb, K, n, te, ti, wo, mk, c, pl, rd, hV, hD, hG'⟩, hH, hP, hC⟩, Nat.le_refl _⟩, fun z => z rfl⟩) (fun z => absurd z (by omega))
