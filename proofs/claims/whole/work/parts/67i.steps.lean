/-! the steps: see, forget, weight, miss -/
theorem cn_congr {pl pl' : Nat → Nat} {s : Nat} : ∀ {c : Nat}, (∀ x, x < c → pl' x = pl x) → cn pl' s c = cn pl s c
  | 0, _ => rfl
  | c + 1, h => by rw [cn, cn, cn_congr (c := c) (fun x hx => h x (by omega)), h c (by omega)]
theorem cn_le (pl : Nat → Nat) (s : Nat) : ∀ c, cn pl s c ≤ c
  | 0 => Nat.le_refl _
  | c + 1 => by rw [cn]; have := cn_le pl s c; split <;> omega
theorem su_congr {pl pl' : Nat → Nat} {rd rd' : Nat → Int} {s c : Nat} (h : ∀ x, x < c → pl' x = pl x) (h2 : ∀ x, x < c → rd' x = rd x) : su pl' rd' c s = su pl rd c s := sm_congr (fun x hx => by rw [h x hx, h2 x hx])
theorem su_abs {pl : Nat → Nat} {rd : Nat → Int} (h : ∀ x, -1000 ≤ rd x ∧ rd x ≤ 1000) (c s : Nat) : (su pl rd c s).natAbs ≤ c * 1000 := sm_abs c _ _ (fun x _ => by have := h x; split <;> omega)
theorem tbp_seen {n : Nat} {te pl : Nat → Nat} {S : Nat} {i j : Nat} (hi : i < n) (hj : j < n) : ∀ c, (∀ x, x < c → pl x < S) → tbp n te pl (fun _ => 1) c i j = tbp n te id (fun s => cn pl s c) S i j
  | 0, _ => by
    unfold tbp
    rw [if_pos ⟨hi, hj⟩, if_pos ⟨hi, hj⟩]
    show (0 : Int) = _
    rw [sm_zero (fun s _ => by show ((0 : Nat) : Int) * _ * _ = 0; simp)]
  | c + 1, h => by
    rw [tbp_succ hi hj, tbp_seen hi hj c (fun x hx => h x (by omega))]
    rw [tbp_chg (ti := fun s => cn pl s c) (ti' := fun s => cn pl s (c + 1)) (s := pl c) (h c (by omega)) (fun t ht => by show cn pl t (c + 1) = cn pl t c; rw [cn, if_neg (fun e => ht e.symm)]; rfl) hi hj]
    have : ((cn pl (pl c) (c + 1) : Nat) : Int) - (cn pl (pl c) c : Nat) = 1 := by rw [cn, if_pos rfl]; omega
    rw [this, Int.mul_assoc]
    rfl
theorem tbp_seenF {n : Nat} {te pl : Nat → Nat} {S c : Nat} (h : ∀ x, x < c → pl x < S) : tbp n te pl (fun _ => 1) c = tbp n te id (fun s => cn pl s c) S := by
  funext i j
  by_cases e : i < n ∧ j < n
  · exact tbp_seen e.1 e.2 c h
  · rw [tbp_out e, tbp_out e]
def pul (te pl : Nat → Nat) (rd : Nat → Int) (c i : Nat) : Int := sm c (fun x => rd x * ch (te i) (pl x))
theorem pul_seen {te pl : Nat → Nat} {rd : Nat → Int} {S i : Nat} : ∀ c, (∀ x, x < c → pl x < S) → sm S (fun s => ch (te i) s * su pl rd c s) = pul te pl rd c i
  | 0, _ => sm_zero (fun s _ => by show _ * (0 : Int) = 0; simp)
  | c + 1, h => by
    unfold pul
    rw [sm]
    rw [sm_chg (f := fun s => ch (te i) s * su pl rd c s) (s := pl c) (fun t ht => by
      unfold su; rw [sm, if_neg (fun e => ht e.symm)]; simp) (h c (by omega)), pul_seen c (fun x hx => h x (by omega))]
    have : su pl rd (c + 1) (pl c) = su pl rd c (pl c) + rd c := by unfold su; rw [sm, if_pos rfl]
    rw [this]
    unfold pul
    generalize su pl rd c (pl c) = u
    generalize sm c _ = q
    grind
theorem seen_psd {K n : Nat} {te ti wo : Nat → Nat} {mk : Nat → Int} {c : Nat} {pl : Nat → Nat} {rd : Nat → Int} (hV : VA K n te ti wo mk c pl rd) : psd n (tbp n te id (fun s => cn pl s c) (2 ^ K)) ∧ ∀ i j, (tbp n te id (fun s => cn pl s c) (2 ^ K) i j).natAbs ≤ 60 := by
  refine ⟨psd_tbp _ _ _ _ _, fun i j => ?_⟩
  rw [← tbp_seenF (fun x _ => hV.2.2.2.2.2.2.2.2.2.2.2.1 x)]
  have h2 : (tbp n te pl (fun _ => 1) c i j).natAbs ≤ c := tbp_abs (by rw [sm_const]; simp) i j
  have := hV.2.2.2.2.2.2.2.2.2.2.1
  omega
theorem wp_sweepSeen {K n c : Nat} (hK : K < 7) (hn : n ≤ 5) (hc : c ≤ 60) {te pl : Nat → Nat} {rd : Nat → Int} (hte : ∀ i, i < n → te i < 64) (hpl : ∀ x, pl x < 2 ^ K) (hrd : ∀ x, -1000 ≤ rd x ∧ rd x ≤ 1000) (hps : psd n (tbp n te id (fun s => cn pl s c) (2 ^ K))) (hB : ∀ i j, (tbp n te id (fun s => cn pl s c) (2 ^ K) i j).natAbs ≤ 60) {cells : Nat → Int64} {sw : Nat → Int32} {size rank fc tc : Int32} {lower : Int64} {terms st ss : Nat → Int32} {line : Nat → Int64} (hfc : fc = nI K) (htc : tc = nI n) (ht : ∀ i, i < n → terms i = nI (te i)) (h10 : ∀ s, s < 64 → st s = nI (cn pl s c)) (h11 : ∀ s, s < 64 → ss s = iI (su pl rd c s)) {k : (Nat → Int64) → (Nat → Int32) → Int32 → Int32 → Int64 → (Nat → Int64) → Prop}
    (h : ∀ f sw' ln', GC n f (CV (tbp n te id (fun s => cn pl s c) (2 ^ K)) (gln (tbp n te id (fun s => cn pl s c) (2 ^ K)) n).2 (gln (tbp n te id (fun s => cn pl s c) (2 ^ K)) n).1) → SP n sw' (gln (tbp n te id (fun s => cn pl s c) (2 ^ K)) n).2 (gln (tbp n te id (fun s => cn pl s c) (2 ^ K)) n).1 → (∀ i, i < n → ln' i = lI (pul te pl rd c i)) → k f sw' (nI n) (nI (gln (tbp n te id (fun s => cn pl s c) (2 ^ K)) n).1) (lI (DD (tbp n te id (fun s => cn pl s c) (2 ^ K)) (gln (tbp n te id (fun s => cn pl s c) (2 ^ K)) n).2 (gln (tbp n te id (fun s => cn pl s c) (2 ^ K)) n).1)) ln') : wpX6_sweepSeen fc tc terms st ss cells sw size rank lower line k := by
  have h64 := (shl_tab K hK).2.1
  unfold wpX6_sweepSeen
  refine wp_fill hK hn hte (fun s _ => by have := cn_le pl s c; omega) hfc htc ht h10 (fun f hf => ?_)
  refine wp_sweep hn hps hB rfl hf (fun f sw' h1 h2 => wp_settX hK hfc ?_)
  subst htc
  refine wloop_n (fun i st => ∃ l, st = (nI i, l) ∧ ∀ j, j < i → l j = lI (pul te pl rd c j)) n ⟨line, rfl, fun j hj => absurd hj (Nat.not_lt_zero _)⟩ ?_ ?_
  · rintro i st again hi ⟨l, rfl, hl⟩ hag
    rw [wbX6_sweepSeen_35]
    refine pk_le n i (fun z => absurd z (by omega)) (fun _ => ⟨vp_in_nI (by omega) (by omega), ?_⟩)
    refine wloop_n (fun s st => ∃ l, st = (nI s, l) ∧ (∀ j, j < i → l j = lI (pul te pl rd c j)) ∧ l i = lI (sm s (fun s => ch (te i) s * su pl rd c s))) (2 ^ K) ⟨_, rfl, fun j hj => ?_, ?_⟩ ?_ ?_
    · rw [nI_clamp (by omega), pk_uLn (by omega), hl j hj]
    · rw [nI_clamp (by omega), pk_uLs]; rfl
    · rintro s st again2 hs ⟨l, rfl, hl, hli⟩ hag2
      have hsb := su_abs (pl := pl) hrd c s
      rw [wbX6_sweepSeen_55]
      refine pk_le (2 ^ K) s (fun z => absurd z (by omega)) (fun _ => ⟨vp_in_nI (by omega) (by omega), ?_⟩)
      rw [nI_clamp (show s < 2 ^ 31 by omega), h11 s (by omega), show (0 : Int32) = iI 0 from rfl, iI_inj (by omega) (by decide), nI_1]
      refine ⟨fun z => hag2 _ ⟨l, rfl, hl, ?_⟩, fun z => ⟨vp_in_nI (by omega) (by omega), vp_in_nI (by omega) (by omega), ?_⟩⟩
      · rw [hli, sm, z]; congr 1; omega
      · rw [nI_clamp (by omega), ht i hi]
        refine wp_markX (hte i hi) (by omega) ⟨vp_in_nI (by omega) (by omega), vp_in_nI (by omega) (by omega), ?_⟩
        have hab : (ch (te i) s * su pl rd c s).natAbs ≤ 60000 := by
          rw [Int.natAbs_mul]
          rcases ch_1 (te i) s with h | h <;> rw [h] <;> simp <;> omega
        rw [iI_mul, iI_l (by omega) (by omega), hli, lI_add]
        refine hag2 _ ⟨_, rfl, fun j hj => ?_, ?_⟩
        · rw [pk_uLn (by omega), hl j hj]
        · rw [pk_uLs, sm]
    · rintro st again2 ⟨l, rfl, hl, hli⟩
      rw [wbX6_sweepSeen_55]
      refine pk_le (2 ^ K) (2 ^ K) (fun _ => ?_) (fun z => absurd z (by omega))
      rw [nI_1]
      refine hag _ ⟨l, rfl, fun j hj => ?_⟩
      by_cases e : j = i
      · subst e; rw [hli, pul_seen c (fun x _ => hpl x)]
      · exact hl j (by omega)
  · rintro st again ⟨l, rfl, hl⟩
    rw [wbX6_sweepSeen_35]
    exact pk_le n n (fun _ => h f sw' l h1 h2 hl) (fun z => absurd z (by omega))
theorem wp_pulls {K n c : Nat} (hK : K < 7) (hn : n ≤ 5) (hc : c ≤ 60) {te pl : Nat → Nat} {rd : Nat → Int} (hte : ∀ i, i < n → te i < 64) (hpl : ∀ x, pl x < 2 ^ K) (hrd : ∀ x, -1000 ≤ rd x ∧ rd x ≤ 1000) {g : Nat → Int32} (hg1 : g 1 = nI n) (hg : ∀ i, i < n → g (2 + i) = nI (te i)) (hgc : g 79 = nI c) (hgp : ∀ x, x < c → g (80 + x) = nI (pl x)) (hgr : ∀ x, x < c → g (140 + x) = iI (rd x)) {pulls : Nat → Int64} {k : (Nat → Int64) → Prop} (h : ∀ f, (∀ i, i < n → f i = lI (pul te pl rd c i)) → k f) : wpX7_pulls g pulls k := by
  have h64 := (shl_tab K hK).2.1
  unfold wpX7_pulls
  refine wloop_n (fun i st => ∃ f, st = (nI i, f) ∧ ∀ j, j < i → f j = 0) 5 ⟨pulls, rfl, fun j hj => absurd hj (Nat.not_lt_zero _)⟩ ?_ ?_
  · rintro i st again hi ⟨f, rfl, hf⟩ hag
    rw [wbX7_pulls_2]
    refine pk_le 5 i (fun z => absurd z (by omega)) (fun _ => ⟨vp_in_nI hi (by omega), ?_⟩)
    rw [nI_clamp (by omega), nI_1]
    refine hag _ ⟨_, rfl, fun j hj => ?_⟩
    by_cases e : j = i
    · subst e; rw [pk_uLs]
    · rw [pk_uLn e, hf j (by omega)]
  · rintro st again ⟨f, rfl, hf⟩
    rw [wbX7_pulls_2]
    refine pk_le 5 5 (fun _ => ?_) (fun z => absurd z (by omega))
    refine wloop_n (fun x st => ∃ f, st = (nI x, f) ∧ ∀ i, i < n → f i = lI (pul te pl rd x i)) c ⟨f, rfl, fun i hi => by rw [hf i (by omega)]; rfl⟩ ?_ ?_
    · rintro x st again2 hx ⟨f, rfl, hf⟩ hag2
      rw [wbX7_pulls_22, hgc]
      refine pk_le c x (fun z => absurd z (by omega)) (fun _ => ?_)
      refine wloop_n (fun i st => ∃ f, st = (nI i, f) ∧ ∀ j, j < n → f j = lI (pul te pl rd (if j < i then x + 1 else x) j)) n ⟨f, rfl, fun j hj => by rw [if_neg (by omega)]; exact hf j hj⟩ ?_ ?_
      · rintro i st again3 hi ⟨f, rfl, hf⟩ hag3
        have := hrd x
        have hp := hpl x
        rw [wbX7_pulls_35, hg1]
        refine pk_le n i (fun z => absurd z (by omega)) (fun _ => ?_)
        rw [show (2 : Int32) + nI i = nI (2 + i) from nI_add 2 i, show (140 : Int32) + nI x = nI (140 + x) from nI_add 140 x, show (80 : Int32) + nI x = nI (80 + x) from nI_add 80 x, nI_clamp (show 2 + i < 2 ^ 31 by omega), nI_clamp (show 140 + x < 2 ^ 31 by omega), nI_clamp (show 80 + x < 2 ^ 31 by omega), nI_clamp (show i < 2 ^ 31 by omega), hg i hi, hgp x hx, hgr x hx]
        refine ⟨vp_in_nI (by omega) (by omega), vp_in_nI (by omega) (by omega), vp_in_nI (by omega) (by omega), vp_in_nI (by omega) (by omega), wp_markM (hte i hi) (by omega) ⟨vp_in_nI (by omega) (by omega), ?_⟩⟩
        have hab : (rd x * ch (te i) (pl x)).natAbs ≤ 1000 := by
          rw [Int.natAbs_mul]
          rcases ch_1 (te i) (pl x) with h | h <;> rw [h] <;> simp <;> omega
        rw [iI_mul, iI_l (by omega) (by omega), hf i hi, if_neg (by omega), lI_add, nI_1]
        refine hag3 _ ⟨_, rfl, fun j hj => ?_⟩
        by_cases e : j = i
        · subst e; rw [pk_uLs, if_pos (by omega)]; unfold pul; rw [sm]
        · rw [pk_uLn e, hf j hj]
          by_cases e2 : j < i
          · rw [if_pos e2, if_pos (by omega)]
          · rw [if_neg e2, if_neg (by omega)]
      · rintro st again3 ⟨f, rfl, hf⟩
        rw [wbX7_pulls_35, hg1]
        refine pk_le n n (fun _ => ?_) (fun z => absurd z (by omega))
        rw [nI_1]
        exact hag2 _ ⟨f, rfl, fun i hi => by rw [hf i hi, if_pos hi]⟩
    · rintro st again2 ⟨f, rfl, hf⟩
      rw [wbX7_pulls_22, hgc]
      exact pk_le c c (fun _ => h f hf) (fun z => absurd z (by omega))
theorem lb_step_27 (x : XS) (y : MS) (a1 : Int32) (a2 : Int32) (a3 : Int32) (a4 : Int32) (a5 : Int32) (a6 : Int32) (h : LInv x y) : ∃ bud, bud ≤ 49152 ∧ wpL_27 x y a1 a2 a3 a4 a5 a6 bud (fun x9 y9 => LInv x9 y9 ∧ pot x + bud ≤ pot x9) := by
  refine ⟨0, by omega, ?_⟩
  obtain ⟨hB, hH, hP, hC⟩ := h
  obtain ⟨K, n, te, ti, wo, mk, c, pl, rd, hV, hD, hbg⟩ := BR_open hB
  obtain ⟨hps, hbd⟩ := seen_psd hV
  have hV' := hV
  obtain ⟨⟨hK1, hK6⟩, ⟨hn1, hn5⟩, hte, hdi, hti, htz, htot, hwo, hin, hmk, hc, hpl, hrd⟩ := hV'
  have hD' := hD
  obtain ⟨d1, d2, d3, d4, d5, d6, d7, d8, d9, d10, d11⟩ := hD'
  have h64 := p64 hK6
  have hte6 : ∀ i, i < n → te i < 64 := fun i hi => by have := hte i hi; omega
  have hTe : tbp n te pl (fun _ => 1) c = tbp n te id (fun s => cn pl s c) (2 ^ K) := tbp_seenF (fun x _ => hpl x)
  unfold wpL_27 wpX6_weight
  refine wp_frac a6 (fun f01 => ⟨fun z => absurd z (by decide), fun _ => ?_⟩) (fun n0 n1 => ⟨fun _ => ?_, fun z => absurd rfl z⟩)
  · obtain ⟨w0, w1⟩ := frac_n f01
    refine wp_takeX hn5 d2 _ a1 a2 a3 a4 a5 (fun ok => ⟨fun z => absurd z (by decide), fun _ => ?_⟩) (fun no => ⟨fun _ => ?_, fun z => absurd rfl z⟩)
    · refine wp_sweepSeen (by omega) hn5 hc hte6 hpl hrd hps hbd d1 d2 d6 d10 d11 (fun f sw' ln' h1 h2 h3 => ?_)
      obtain ⟨g1, g2, g3, g4⟩ := gln_ok hps n (Nat.le_refl _)
      have b5 := DDb (ln := (gln (tbp n te id (fun s => cn pl s c) (2 ^ K)) n).2) (show (gln (tbp n te id (fun s => cn pl s c) (2 ^ K)) n).1 ≤ 5 by omega) hbd
      refine wp_reaches hn5 hps.1 hbd (gln_inj hps (Nat.le_refl _)) g2 g1 (gln_hall hps) rfl rfl h1 h2 (fun i hi => sf_sx _ a1 a2 a3 a4 a5 (by omega)) (sOK_abs ok) (fun hall => ⟨fun z => absurd z (by decide), fun _ => ?_⟩) (fun j hj hne => ⟨fun _ => ?_, fun z => absurd rfl z⟩)
      · refine wp_measure hn5 hps.1 (gln_inj hps (Nat.le_refl _)) g2 rfl h1 h2 (fun i hi => sf_sx _ a1 a2 a3 a4 a5 (by omega)) h3 ?_
        refine wp_part g4 (by omega) ?_
        unfold wpM_27 wpX7_weight
        refine hbg _ (fun g b hb hG => ⟨fun z => absurd z w0, fun _ => ⟨fun z => absurd z w1, fun _ => wp_takeM hn5 hG.2.1 _ a1 a2 a3 a4 a5 (fun _ => ⟨fun z => absurd z (by decide), fun _ => ?_⟩) (fun no => absurd ok no)⟩⟩)
        refine wp_tabS hn5 hc hte6 (fun x _ => by have := hpl x; omega) hG.2.1 hG.2.2.1 hG.2.2.2.2.2.2.1 hG.2.2.2.2.2.2.2.1 (fun f hf => ?_)
        rw [hTe] at hf
        refine wp_isKnown hn5 hbd hG.2.1 (fun i j hi hj => hf i j (by omega) (by omega)) (fun i hi => sf_sx _ a1 a2 a3 a4 a5 (by omega)) (sOK_abs ok) (fun _ _ _ ln' _ _ hln => ⟨fun z => absurd z (by decide), fun _ => ?_⟩) (fun j hj hne => absurd (hall j hj) hne)
        refine wp_pulls (K := K) (by omega) hn5 hc hte6 hpl hrd hG.2.1 hG.2.2.1 hG.2.2.2.2.2.2.1 hG.2.2.2.2.2.2.2.1 hG.2.2.2.2.2.2.2.2 (fun pf hpf => ?_)
        refine wp_given hn5 (by omega) g2 (fun i j hi hj => hf i j (by omega) (by omega)) hln hpf (fun i hi => sf_sx _ a1 a2 a3 a4 a5 (by omega)) (fun _ _ => ?_)
        exact wp_share g4 (by omega) ⟨fun _ => ⟨⟨Or.inl ⟨hb, K, n, te, ti, wo, mk, c, pl, rd, hV, hD, hG⟩, hH, hP, hC⟩, Nat.le_refl _⟩, fun z => z rfl⟩
      · unfold wpM_27 wpX7_weight
        refine hbg _ (fun g b hb hG => ⟨fun z => absurd z w0, fun _ => ⟨fun z => absurd z w1, fun _ => wp_takeM hn5 hG.2.1 _ a1 a2 a3 a4 a5 (fun _ => ⟨fun z => absurd z (by decide), fun _ => ?_⟩) (fun no => absurd ok no)⟩⟩)
        refine wp_tabS hn5 hc hte6 (fun x _ => by have := hpl x; omega) hG.2.1 hG.2.2.1 hG.2.2.2.2.2.2.1 hG.2.2.2.2.2.2.2.1 (fun f hf => ?_)
        rw [hTe] at hf
        exact wp_isKnown hn5 hbd hG.2.1 (fun i j hi hj => hf i j (by omega) (by omega)) (fun i hi => sf_sx _ a1 a2 a3 a4 a5 (by omega)) (sOK_abs ok) (fun hall => absurd (hall j hj) hne) (fun _ _ _ _ _ _ _ _ _ => ⟨fun _ => ⟨fun _ => ⟨⟨Or.inl ⟨hb, K, n, te, ti, wo, mk, c, pl, rd, hV, hD, hG⟩, hH, hP, hC⟩, Nat.le_refl _⟩, fun z => z rfl⟩, fun z => absurd rfl z⟩)
    · unfold wpM_27 wpX7_weight
      exact hbg _ (fun g b hb hG => ⟨fun z => absurd z w0, fun _ => ⟨fun z => absurd z w1, fun _ => wp_takeM hn5 hG.2.1 _ a1 a2 a3 a4 a5 (fun ok => absurd ok no) (fun _ => ⟨fun _ => ⟨fun _ => ⟨⟨Or.inl ⟨hb, K, n, te, ti, wo, mk, c, pl, rd, hV, hD, hG⟩, hH, hP, hC⟩, Nat.le_refl _⟩, fun z => z rfl⟩, fun z => absurd rfl z⟩)⟩⟩)
  · unfold wpM_27 wpX7_weight
    refine hbg _ (fun g b hb hG => ?_)
    have L : LInv x ((y.1.1, b, g, y.1.2.2.2), (0, y.2.1.2), y.2.2) := ⟨Or.inl ⟨hb, K, n, te, ti, wo, mk, c, pl, rd, hV, hD, hG⟩, hH, hP, hC⟩
    refine ⟨fun _ => ⟨fun _ => ⟨L, Nat.le_refl _⟩, fun z => z rfl⟩, fun z1 => ⟨fun _ => ⟨fun _ => ⟨L, Nat.le_refl _⟩, fun z => z rfl⟩, fun z2 => ?_⟩⟩
    rcases frac01 z1 z2 with e | e
    · exact absurd e n0
    · exact absurd e n1
theorem lb_step_28 (x : XS) (y : MS) (a1 : Int32) (h : LInv x y) : ∃ bud, bud ≤ 49152 ∧ wpL_28 x y a1 bud (fun x9 y9 => LInv x9 y9 ∧ pot x + bud ≤ pot x9) := by
  refine ⟨0, by omega, ?_⟩
  obtain ⟨hB, hH, hP, hC⟩ := h
  obtain ⟨K, n, te, ti, wo, mk, c, pl, rd, hV, hD, hbg⟩ := BR_open hB
  obtain ⟨hps, hbd⟩ := seen_psd hV
  have hV' := hV
  obtain ⟨⟨hK1, hK6⟩, ⟨hn1, hn5⟩, hte, hdi, hti, htz, htot, hwo, hin, hmk, hc, hpl, hrd⟩ := hV'
  have hD' := hD
  obtain ⟨d1, d2, d3, d4, d5, d6, d7, d8, d9, d10, d11⟩ := hD'
  have h64 := p64 hK6
  have hte6 : ∀ i, i < n → te i < 64 := fun i hi => by have := hte i hi; omega
  have hTe : tbp n te pl (fun _ => 1) c = tbp n te id (fun s => cn pl s c) (2 ^ K) := tbp_seenF (fun x _ => hpl x)
  unfold wpL_28 wpX6_miss
  refine wp_frac a1 (fun f01 => ⟨fun z => absurd z (by decide), fun _ => ?_⟩) (fun n0 n1 => ⟨fun _ => ?_, fun z => absurd rfl z⟩)
  · obtain ⟨w0, w1⟩ := frac_n f01
    refine wp_sweepSeen (by omega) hn5 hc hte6 hpl hrd hps hbd d1 d2 d6 d10 d11 (fun f sw' ln' h1 h2 h3 => ?_)
    obtain ⟨g1, g2, g3, g4⟩ := gln_ok hps n (Nat.le_refl _)
    have b5 := DDb (ln := (gln (tbp n te id (fun s => cn pl s c) (2 ^ K)) n).2) (show (gln (tbp n te id (fun s => cn pl s c) (2 ^ K)) n).1 ≤ 5 by omega) hbd
    rw [measure_same]
    refine wp_measure hn5 hps.1 (gln_inj hps (Nat.le_refl _)) g2 rfl h1 h2 h3 h3 ?_
    refine wp_part g4 (by omega) ?_
    rw [d5]
    unfold wpM_28 wpX7_miss
    refine hbg _ (fun g b hb hG => ⟨fun z => absurd z w0, fun _ => ⟨fun _ => ?_, fun z => absurd (Int32.not_lt.1 w1) z⟩⟩)
    refine wp_tabS hn5 hc hte6 (fun x _ => by have := hpl x; omega) hG.2.1 hG.2.2.1 hG.2.2.2.2.2.2.1 hG.2.2.2.2.2.2.2.1 (fun f hf => ?_)
    rw [hTe] at hf
    refine wp_find hn5 hbd hG.2.1 (fun i j hi hj => hf i j (by omega) (by omega)) (fun w p l sd un hl => ?_)
    refine wp_pulls (K := K) (by omega) hn5 hc hte6 hpl hrd hG.2.1 hG.2.2.1 hG.2.2.2.2.2.2.1 hG.2.2.2.2.2.2.2.1 hG.2.2.2.2.2.2.2.2 (fun pf hpf => ?_)
    refine wloop_n (fun x st => st = (lI (sm x (fun x => rd x * rd x)), nI x)) c rfl ?_ ?_
    · rintro x st again hx rfl hag
      have := hrd x
      rw [wbX7_miss_40, hG.2.2.2.2.2.2.1]
      refine pk_le c x (fun z => absurd z (by omega)) (fun _ => ?_)
      rw [show (140 : Int32) + nI x = nI (140 + x) from nI_add 140 x, nI_clamp (by omega), hG.2.2.2.2.2.2.2.2 x hx, iI_l (by omega) (by omega), lI_mul, lI_add, nI_1]
      exact ⟨vp_in_nI (by omega) (by omega), vp_in_nI (by omega) (by omega), hag _ rfl⟩
    · rintro st again rfl
      rw [wbX7_miss_40, hG.2.2.2.2.2.2.1, given_same]
      refine pk_le c c (fun _ => ?_) (fun z => absurd z (by omega))
      refine wp_given hn5 (by omega) g2 (fun i j hi hj => hf i j (by omega) (by omega)) hl hpf hpf (fun _ _ => ?_)
      exact wp_share g4 (by omega) ⟨fun _ => ⟨⟨Or.inl ⟨hb, K, n, te, ti, wo, mk, c, pl, rd, hV, ⟨d1, d2, d3, d4, rfl, d6, d7, d8, d9, d10, d11⟩, hG⟩, hH, hP, hC⟩, Nat.le_refl _⟩, fun z => z rfl⟩
  · unfold wpM_28 wpX7_miss
    refine hbg _ (fun g b hb hG => ?_)
    have L : LInv x ((y.1.1, b, g, y.1.2.2.2), (0, y.2.1.2), y.2.2) := ⟨Or.inl ⟨hb, K, n, te, ti, wo, mk, c, pl, rd, hV, hD, hG⟩, hH, hP, hC⟩
    refine ⟨fun _ => ⟨fun _ => ⟨L, Nat.le_refl _⟩, fun z => z rfl⟩, fun z1 => ⟨fun z2 => ?_, fun _ => ⟨fun _ => ⟨L, Nat.le_refl _⟩, fun z => z rfl⟩⟩⟩
    rcases frac01 z1 (Int32.not_lt.2 z2) with e | e
    · exact absurd e n0
    · exact absurd e n1
