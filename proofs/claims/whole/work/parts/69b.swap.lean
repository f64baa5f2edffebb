/-! the step swap -/
def kd (n m : Nat) : Nat := (if m % 2 = 0 then m else 2 ^ n - 1 - m) / 2
theorem kd_t1 : ∀ n, n < 6 → ∀ m, m < 32 → m < 2 ^ n → nI m &&& (1 : Int32) = 0 → nI m >>> ((1 : Int32) &&& 31) = nI (kd n m) := by decide +kernel
theorem kd_t2 : ∀ n, n < 6 → ∀ m, m < 32 → m < 2 ^ n → nI m &&& (1 : Int32) ≠ 0 → ((((1 : Int32) <<< (nI n &&& 31)) - (1 : Int32)) &&& (nI m ^^^ (-1 : Int32))) >>> ((1 : Int32) &&& 31) = nI (kd n m) := by decide +kernel
theorem kd_p5 : ∀ n, n < 6 → 2 ^ n ≤ 32 := by decide
theorem kd_tab (n : Nat) (hn : n < 6) (m : Nat) (hm : m < 32) (hm2 : m < 2 ^ n) : (nI m &&& (1 : Int32) = 0 → nI m >>> ((1 : Int32) &&& 31) = nI (kd n m)) ∧ (¬ nI m &&& (1 : Int32) = 0 → ((((1 : Int32) <<< (nI n &&& 31)) - (1 : Int32)) &&& (nI m ^^^ (-1 : Int32))) >>> ((1 : Int32) &&& 31) = nI (kd n m)) ∧ (1 ≤ n → kd n m < 16) := by
  refine ⟨kd_t1 n hn m hm hm2, kd_t2 n hn m hm hm2, fun _ => ?_⟩
  have := kd_p5 n hn
  unfold kd
  split <;> omega
theorem kd_inj (n : Nat) (hn : n < 6) (h1 : 1 ≤ n) (m : Nat) (hm : m < 32) (m' : Nat) (hm' : m' < 32) (h2 : m < 2 ^ n) (h3 : m' < 2 ^ n) (h : kd n m = kd n m') : m' = m ∨ m' = 2 ^ n - 1 - m := by
  obtain ⟨j, rfl⟩ : ∃ j, n = j + 1 := ⟨n - 1, by omega⟩
  rw [Nat.pow_succ] at *
  unfold kd at h
  rw [Nat.pow_succ] at h
  generalize 2 ^ j = q at *
  split at h <;> split at h <;> omega
theorem kd_neg : ∀ n, n < 6 → ∀ m, m < 32 → m < 2 ^ n → ∀ i, i < 5 → i < n → sg ((2 ^ n - 1 - m) / 2 ^ i % 2) = - sg (m / 2 ^ i % 2) := by decide +kernel
/-- SETTINGS of one kind move the table alike -/
theorem kd_same {n : Nat} (hn1 : 1 ≤ n) (hn : n ≤ 5) {te : Nat → Nat} {a b : Nat} (h : kd n (sgs te a n) = kd n (sgs te b n)) {i j : Nat} (hi : i < n) (hj : j < n) : ch (te i) a * ch (te j) a = ch (te i) b * ch (te j) b := by
  have ha := sgs_lt te a n
  have hb := sgs_lt te b n
  have h32 := p5 n (by omega)
  rcases kd_inj n (by omega) hn1 _ (by omega) _ (by omega) ha hb h with e | e
  · rw [← sgs_ch hi, ← sgs_ch hj, ← sgs_ch (s := b) hi, ← sgs_ch (s := b) hj, e]
  · rw [← sgs_ch hi, ← sgs_ch hj, ← sgs_ch (s := b) hi, ← sgs_ch (s := b) hj, e, kd_neg n (by omega) _ (by omega) ha i (by omega) hi, kd_neg n (by omega) _ (by omega) ha j (by omega) hj, Int.neg_mul_neg]
def TS (n : Nat) (te : Nat → Nat) (T : Nat → Nat → Int) (a b i j : Nat) : Int := T i j - ch (te i) a * ch (te j) a + ch (te i) b * ch (te j) b
def WS (n : Nat) (te : Nat → Nat) (T : Nat → Nat → Int) (a b : Nat) : Int := det n (TS n te T a b)
theorem WS_kind {n : Nat} (hn1 : 1 ≤ n) (hn : n ≤ 5) {te : Nat → Nat} {T : Nat → Nat → Int} {a b a' b' : Nat} (h1 : kd n (sgs te a n) = kd n (sgs te a' n)) (h2 : kd n (sgs te b n) = kd n (sgs te b' n)) : WS n te T a b = WS n te T a' b' := det_congr (fun i j hi hj => by
  unfold TS
  rw [kd_same hn1 hn h1 hi hj, kd_same hn1 hn h2 hi hj])
theorem TS_tbp {K n : Nat} {te ti : Nat → Nat} {a b : Nat} (ha : a < 2 ^ K) (hb : b < 2 ^ K) (hne : b ≠ a) (h0 : 0 < ti a) {i j : Nat} (hi : i < n) (hj : j < n) : tbp n te id (tup (tdc ti a) b) (2 ^ K) i j = TS n te (tbp n te id ti (2 ^ K)) a b i j := by
  rw [tbp_up hb hi hj, tbp_dc ha h0 hi hj]; rfl
theorem WS_WW {K n : Nat} {te ti : Nat → Nat} {a b : Nat} (ha : a < 2 ^ K) (hb : b < 2 ^ K) (hne : b ≠ a) (h0 : 0 < ti a) : WW K n te (tup (tdc ti a) b) = WS n te (tbp n te id ti (2 ^ K)) a b := det_congr (fun i j hi hj => TS_tbp ha hb hne h0 hi hj)
/-- the swaps, one behind the other -/
def inf (ti : Nat → Nat) (W : Nat → Nat → Int) (a : Nat) (st : Int64 × Int32 × Int32) : Nat → Int64 × Int32 × Int32
  | 0 => st
  | b + 1 => if b ≠ a ∧ 0 < ti a ∧ ti b < 9 ∧ ¬ lI (W a b) ≤ (inf ti W a st b).1 then (lI (W a b), nI a, nI b) else inf ti W a st b
def ouf (ti : Nat → Nat) (W : Nat → Nat → Int) (S : Nat) (w0 : Int) : Nat → Int64 × Int32 × Int32
  | 0 => (lI w0, -1, -1)
  | a + 1 => inf ti W a (ouf ti W S w0 a) S
theorem inf_0 {ti : Nat → Nat} {W : Nat → Nat → Int} {a : Nat} {st : Int64 × Int32 × Int32} (h : ti a = 0) : ∀ b, inf ti W a st b = st
  | 0 => rfl
  | b + 1 => by rw [inf, if_neg (fun e => by omega)]; exact inf_0 h b
def swok (ti : Nat → Nat) (S : Nat) (st : Int64 × Int32 × Int32) : Prop := (st.2.1 = -1 ∧ st.2.2 = -1) ∨ ∃ a b, a < S ∧ b < S ∧ b ≠ a ∧ 0 < ti a ∧ ti b < 9 ∧ st.2.1 = nI a ∧ st.2.2 = nI b
theorem inf_ok {ti : Nat → Nat} {W : Nat → Nat → Int} {S a : Nat} (ha : a < S) {st : Int64 × Int32 × Int32} (h : swok ti S st) : ∀ b, b ≤ S → swok ti S (inf ti W a st b)
  | 0, _ => h
  | b + 1, hb => by
    rw [inf]
    by_cases c : b ≠ a ∧ 0 < ti a ∧ ti b < 9 ∧ ¬ lI (W a b) ≤ (inf ti W a st b).1
    · rw [if_pos c]; exact Or.inr ⟨a, b, ha, by omega, c.1, c.2.1, c.2.2.1, rfl, rfl⟩
    · rw [if_neg c]; exact inf_ok ha h b (by omega)
theorem ouf_ok {ti : Nat → Nat} {W : Nat → Nat → Int} {S : Nat} {w0 : Int} : ∀ a, a ≤ S → swok ti S (ouf ti W S w0 a)
  | 0, _ => Or.inl ⟨rfl, rfl⟩
  | a + 1, ha => by rw [ouf]; exact inf_ok (by omega) (ouf_ok a (by omega)) S (Nat.le_refl _)
/-- the class's table of worths of swaps -/
def SWI (n : Nat) (te ti : Nat → Nat) (T : Nat → Nat → Int) (S : Nat) (sw : Nat → Int64) : Prop := ∀ p, p < 256 → sw p = -1 ∨ ∃ a b, a < S ∧ b < S ∧ p = kd n (sgs te a n) * 16 + kd n (sgs te b n) ∧ sw p = lI (WS n te T a b)
theorem wp_wos {K n : Nat} (hK : K ≤ 6) (hn1 : 1 ≤ n) (hn : n ≤ 5) {te ti : Nat → Nat} (hte : ∀ i, i < n → te i < 64) (htz : ∀ s, 2 ^ K ≤ s → ti s = 0) (htot : tot ti 64 ≤ 40) {tc : Int32} {terms kinds : Nat → Int32} (htc : tc = nI n) (ht : ∀ i, i < n → terms i = nI (te i)) (hk : ∀ s, s < 2 ^ K → kinds s = nI (kd n (sgs te s n))) {cells : Nat → Int64} (hc : GC n cells (tbp n te id ti (2 ^ K))) {a b : Nat} (ha : a < 2 ^ K) (hb : b < 2 ^ K) (hne : b ≠ a) (h0 : 0 < ti a) {tcl : Nat → Int64} {tsz : Int32} {sw : Nat → Int64} (hsw : SWI n te ti (tbp n te id ti (2 ^ K)) (2 ^ K) sw) {k : Int64 → (Nat → Int64) → Int32 → (Nat → Int64) → Prop}
    (h : ∀ tc' ts' sw', SWI n te ti (tbp n te id ti (2 ^ K)) (2 ^ K) sw' → k (lI (WS n te (tbp n te id ti (2 ^ K)) a b)) tc' ts' sw') : wpX6_worthOfSwap tc terms cells (nI n) tcl tsz kinds sw (nI a) (nI b) k := by
  have h64 := p64 hK
  have hka := (kd_tab n (by omega) (sgs te a n) (Nat.lt_of_lt_of_le (sgs_lt te a n) (p5 n (by omega))) (sgs_lt te a n)).2.2 hn1
  have hkb := (kd_tab n (by omega) (sgs te b n) (Nat.lt_of_lt_of_le (sgs_lt te b n) (p5 n (by omega))) (sgs_lt te b n)).2.2 hn1
  have htS := tot_z htz (N := 64) h64
  unfold wpX6_worthOfSwap
  rw [nI_clamp (by omega), nI_clamp (by omega), hk a ha, hk b hb, show nI (kd n (sgs te a n)) * (16 : Int32) = nI (kd n (sgs te a n) * 16) from pk_mul _ 16, nI_add, nI_clamp (by omega)]
  have hp : kd n (sgs te a n) * 16 + kd n (sgs te b n) < 256 := by omega
  refine ⟨vp_in_nI (by omega) (by omega), vp_in_nI (by omega) (by omega), vp_in_nI hp (by omega), fun z => ?_, fun z => ⟨vp_in_nI hp (by omega), ?_⟩⟩
  · unfold wpX2_copyFrom
    refine wp_signs hn hte (by omega) htc ht ?_
    refine wp_shift (d := -1) hn (Nat.lt_of_lt_of_le (sgs_lt te a n) (p5 n (by omega))) (by decide) rfl hc (fun f1 hf1 => ?_)
    refine wp_signs hn hte (by omega) htc ht ?_
    refine wp_shift (d := 1) hn (Nat.lt_of_lt_of_le (sgs_lt te b n) (p5 n (by omega))) (by decide) rfl hf1 (fun f2 hf2 => ?_)
    refine wp_det (T := tbp n te id (tup (tdc ti a) b) (2 ^ K)) hn1 hn (psd_tbp _ _ _ _ _) (fun i j => tbp_b (by rw [tot_up hb, tot_dc ha h0]; omega) i j) rfl (GC_congr hf2 (fun i j hi hj => ?_)) (fun f3 => ⟨vp_in_nI hp (by omega), vp_in_nI hp (by omega), ?_⟩)
    · rw [TS_tbp ha hb hne h0 hi (by omega), sgs_ch hi, sgs_ch (show j < n by omega), sgs_ch (s := b) hi, sgs_ch (s := b) (show j < n by omega)]
      unfold TS
      generalize ch (te i) a = p
      generalize ch (te j) a = q
      generalize ch (te i) b = p'
      generalize ch (te j) b = q'
      generalize tbp n te id ti (2 ^ K) i j = t
      grind
    · rw [pk_uLs]
      have e := WS_WW (n := n) (te := te) ha hb hne h0
      unfold WW at e
      rw [e]
      refine h _ _ _ (fun p hp2 => ?_)
      by_cases e2 : p = kd n (sgs te a n) * 16 + kd n (sgs te b n)
      · subst e2; rw [pk_uLs]; exact Or.inr ⟨a, b, ha, hb, rfl, rfl⟩
      · rw [pk_uLn e2]; exact hsw p hp2
  · rcases hsw _ hp with h1 | ⟨a', b', h1, h2, h3, h4⟩
    · exact absurd h1 z
    · have hka' := (kd_tab n (by omega) (sgs te a' n) (Nat.lt_of_lt_of_le (sgs_lt te a' n) (p5 n (by omega))) (sgs_lt te a' n)).2.2 hn1
      have hkb' := (kd_tab n (by omega) (sgs te b' n) (Nat.lt_of_lt_of_le (sgs_lt te b' n) (p5 n (by omega))) (sgs_lt te b' n)).2.2 hn1
      rw [h4, WS_kind hn1 hn (a := a') (a' := a) (b := b') (b' := b) (by omega) (by omega)]
      exact h _ _ _ hsw
theorem wp_kind {n : Nat} (hn : n ≤ 5) {m : Nat} (hm : m < 2 ^ n) {tc : Int32} (htc : tc = nI n) {k : Int32 → Prop} (h : k (nI (kd n m))) : wpX1_kindOf tc (nI m) k := by
  subst htc
  have h32 := p5 n (by omega)
  obtain ⟨h1, h2, _⟩ := kd_tab n (by omega) m (by omega) hm
  unfold wpX1_kindOf
  exact ⟨fun z => by rw [h1 z]; exact h, fun z => by rw [h2 z]; exact h⟩
theorem lb_step_15 (x : XS) (y : MS)  (h : LInv x y) : ∃ bud, bud ≤ 49152 ∧ wpL_15 x y  bud (fun x9 y9 => LInv x9 y9 ∧ pot x + bud ≤ pot x9) := by
  refine ⟨0, by omega, ?_⟩
  obtain ⟨hB, hH, hP, hC⟩ := h
  obtain ⟨K, n, te, ti, wo, mk, c, pl, rd, hV, hD, hbg⟩ := BR_open hB
  obtain ⟨hps, hbd⟩ := plan_psd hV
  have hV' := hV
  obtain ⟨⟨hK1, hK6⟩, ⟨hn1, hn5⟩, hte, hdi, hti, htz, htot, hwo, hin, hmk, hc, hpl, hrd⟩ := hV'
  have hD' := hD
  obtain ⟨d1, d2, d3, d4, d5, d6, d7, d8, d9, d10, d11⟩ := hD'
  have h64 := p64 hK6
  have hte6 : ∀ i, i < n → te i < 64 := fun i hi => by have := hte i hi; omega
  have htS := tot_z htz (N := 64) h64
  obtain ⟨h, p, hh, hp, e1, e2, e3, hjj⟩ := hH
  have ho := ouf_ok (ti := ti) (W := WS n te (tbp n te id ti (2 ^ K))) (S := 2 ^ K) (w0 := WW K n te ti) (2 ^ K) (Nat.le_refl _)
  -- the reference's way
  have R : ∀ (r : Int32) (Z : MS → Prop), ((ouf ti (WS n te (tbp n te id ti (2 ^ K))) (2 ^ K) (WW K n te ti) (2 ^ K)).2.1 = -1 → r = 0 ∧ ∀ g b tb w p, b ≠ 0 → RG g K n te ti wo mk c pl rd → Z ((y.1.1, b, g, y.1.2.2.2), (0, y.2.1.2.1, y.2.1.2.2.1, tb, w, p, y.2.1.2.2.2.2.2.2), y.2.2)) → (∀ a s, a < 2 ^ K → s < 2 ^ K → s ≠ a → 0 < ti a → ti s < 9 → (ouf ti (WS n te (tbp n te id ti (2 ^ K))) (2 ^ K) (WW K n te ti) (2 ^ K)).2.1 = nI a → (ouf ti (WS n te (tbp n te id ti (2 ^ K))) (2 ^ K) (WW K n te ti) (2 ^ K)).2.2 = nI s → r = 1 ∧ ∀ g b tb w p kept', b ≠ 0 → RG g K n te ti wo mk c pl rd → KP h y.1.2.2.2 g kept' → Z ((nI (min (h + 1) 8), b, upd (upd g (7 + a) (nI (ti a - 1))) (7 + s) (nI (ti s + 1)), kept'), (0, y.2.1.2.1, y.2.1.2.2.1, tb, w, p, y.2.1.2.2.2.2.2.2), y.2.2)) → wpM_15 y r Z := by
    intro r Z hZ0 hZ1
    unfold wpM_15 wpX7_swap
    refine hbg _ (fun g b hb hG => ?_)
    refine wp_wnow (u := ti) (by omega) hn5 hte6 (fun s _ => by have := hti s; omega) ⟨hG.1, hG.2.1, hG.2.2.1, hG.2.2.2.1⟩ (fun tb w p => ?_)
    refine wloop_n (fun a st => ∃ g' tb w p, st = ((ouf ti (WS n te (tbp n te id ti (2 ^ K))) (2 ^ K) (WW K n te ti) a).1, (ouf ti (WS n te (tbp n te id ti (2 ^ K))) (2 ^ K) (WW K n te ti) a).2.1, (ouf ti (WS n te (tbp n te id ti (2 ^ K))) (2 ^ K) (WW K n te ti) a).2.2, nI a, g', tb, w, p) ∧ RG g' K n te ti wo mk c pl rd) (2 ^ K) ⟨g, tb, w, p, rfl, hG⟩ ?_ ?_
    · rintro a st again ha ⟨g', tb, w, p, rfl, hG'⟩ hag
      have hta := hti a
      rw [wbX7_swap_22]
      refine wp_settM (by omega) hG'.1 (pk_le (2 ^ K) a (fun z => absurd z (by omega)) (fun _ => ?_))
      rw [show (7 : Int32) + nI a = nI (7 + a) from nI_add 7 a, nI_clamp (by omega), hG'.2.2.2.1 a (by omega), nI_1]
      refine ⟨vp_in_nI (by omega) (by omega), pk_eq (ti a) 0 (fun z => hag _ ⟨g', tb, w, p, by rw [ouf, inf_0 z], hG'⟩) (fun z => ?_)⟩
      refine wloop_n (fun b st => ∃ g' tb w p, st = ((inf ti (WS n te (tbp n te id ti (2 ^ K))) a (ouf ti (WS n te (tbp n te id ti (2 ^ K))) (2 ^ K) (WW K n te ti) a) b).1, (inf ti (WS n te (tbp n te id ti (2 ^ K))) a (ouf ti (WS n te (tbp n te id ti (2 ^ K))) (2 ^ K) (WW K n te ti) a) b).2.1, (inf ti (WS n te (tbp n te id ti (2 ^ K))) a (ouf ti (WS n te (tbp n te id ti (2 ^ K))) (2 ^ K) (WW K n te ti) a) b).2.2, nI b, g', tb, w, p) ∧ RG g' K n te ti wo mk c pl rd) (2 ^ K) ⟨g', tb, w, p, rfl, hG'⟩ ?_ ?_
      · rintro s st again2 hs ⟨g', tb, w, p, rfl, hG'⟩ hag2
        have hts := hti s
        rw [wbX7_swap_50]
        refine wp_settM (by omega) hG'.1 (pk_le (2 ^ K) s (fun z => absurd z (by omega)) (fun _ => ?_))
        rw [show (7 : Int32) + nI s = nI (7 + s) from nI_add 7 s, nI_clamp (by omega), hG'.2.2.2.1 s (by omega), nI_1]
        refine pk_eq a s (fun z2 => hag2 _ ⟨g', tb, w, p, by rw [inf, if_neg (fun e => e.1 z2.symm)], hG'⟩) (fun z2 => ⟨vp_in_nI (by omega) (by omega), pk_eq (ti s) 9 (fun z3 => hag2 _ ⟨g', tb, w, p, by rw [inf, if_neg (fun e => by omega)], hG'⟩) (fun z3 => ?_)⟩)
        obtain ⟨v, hv⟩ : ∃ v, ti a = v + 1 := ⟨ti a - 1, by omega⟩
        refine wp_moveD (v := v) (by omega) (by omega) (by rw [hG'.2.2.2.1 a (by omega), hv]) ?_
        refine wp_moveU (v := ti s) (by omega) (by omega) (by rw [pk_un (by omega)]; exact hG'.2.2.2.1 s (by omega)) ?_
        have PG1 : PG (upd g' (7 + a) (nI v)) K n te (tdc ti a) := PG_chg hn5 (by omega) (u := ti) ⟨hG'.1, hG'.2.1, hG'.2.2.1, hG'.2.2.2.1⟩ (fun t ht => tdc_n ht) (by rw [tdc_s, hv]; rfl)
        have PG2 : PG (upd (upd g' (7 + a) (nI v)) (7 + s) (nI (ti s + 1))) K n te (tup (tdc ti a) s) := PG_chg hn5 (by omega) PG1 (fun t ht => tup_n ht) (by rw [tup_s, tdc_n (fun e => z2 e.symm)])
        refine wp_wnow (by omega) hn5 hte6 (fun t _ => by have := hti t; unfold tup tdc; split <;> split <;> omega) PG2 (fun tb2 w2 p2 => ?_)
        refine wp_moveU (v := v) (by omega) (by omega) (by rw [pk_un (by omega), pk_us]) ?_
        refine wp_moveD (v := ti s) (by omega) (by omega) (by rw [pk_un (by omega), pk_us]) ?_
        have hG2 : RG (upd (upd (upd (upd g' (7 + a) (nI v)) (7 + s) (nI (ti s + 1))) (7 + a) (nI (v + 1))) (7 + s) (nI (ti s))) K n te ti wo mk c pl rd := RG_congr hn5 hc hG' (fun q _ => by
          by_cases e : q = 7 + s
          · subst e; rw [pk_us]; exact (hG'.2.2.2.1 s (by omega)).symm
          · rw [pk_un e]
            by_cases e2 : q = 7 + a
            · subst e2; rw [pk_us, ← hv]; exact (hG'.2.2.2.1 a (by omega)).symm
            · rw [pk_un e2, pk_un e, pk_un e2])
        rw [WS_WW ha hs (fun e => z2 e.symm) (by omega)]
        refine ⟨fun z4 => hag2 _ ⟨_, tb2, w2, p2, ?_, hG2⟩, fun z4 => hag2 _ ⟨_, tb2, w2, p2, ?_, hG2⟩⟩
        · rw [inf, if_pos ⟨fun e => z2 e.symm, by omega, by omega, Int64.not_le.2 z4⟩]
        · rw [inf, if_neg (fun e => e.2.2.2 (Int64.not_lt.1 z4))]
      · rintro st again2 ⟨g', tb, w, p, rfl, hG'⟩
        rw [wbX7_swap_50]
        refine wp_settM (by omega) hG'.1 (pk_le (2 ^ K) (2 ^ K) (fun _ => ?_) (fun z => absurd z (by omega)))
        rw [nI_1]
        exact hag _ ⟨g', tb, w, p, by rw [ouf], hG'⟩
    · rintro st' again ⟨g', tb, w, p, rfl, hG'⟩
      rw [wbX7_swap_22]
      refine wp_settM (by omega) hG'.1 (pk_le (2 ^ K) (2 ^ K) (fun _ => ⟨fun z => ?_, fun z => ?_⟩) (fun z => absurd z (by omega)))
      · obtain ⟨hr, hZ⟩ := hZ0 z
        subst hr
        exact ⟨fun _ => hZ g' b tb w p hb hG', fun z => z rfl⟩
      · rcases ho with ⟨h1, _⟩ | ⟨a, s, ha, hs, hne, h0, h9, ea, es⟩
        · exact absurd h1 z
        · obtain ⟨hr, hZ⟩ := hZ1 a s ha hs hne h0 h9 ea es
          subst hr
          refine wp_keepM hh e3 (fun kept' hk => ?_)
          rw [ea, es]
          have hta := hti a
          obtain ⟨v, hv⟩ : ∃ v, ti a = v + 1 := ⟨ti a - 1, by omega⟩
          refine wp_moveD (v := v) (by omega) (by omega) (by rw [hG'.2.2.2.1 a (by omega), hv]) ?_
          refine wp_moveU (v := ti s) (by omega) (by omega) (by rw [pk_un (by omega)]; exact hG'.2.2.2.1 s (by omega)) ⟨fun _ => ?_, fun z => z rfl⟩
          have := hZ g' b tb w p kept' hb hG' hk
          rw [show ti a - 1 = v by omega] at this
          exact this
  unfold wpL_15 wpX6_swap wpX6_prepareSwaps
  refine wp_fill (by omega) hn5 hte6 (fun s _ => by have := hti s; omega) d1 d2 d6 d7 (fun f hf => wp_settX (by omega) d1 ?_)
  refine wloop_n (fun s st => ∃ kn, st = (nI s, kn) ∧ ∀ u, u < s → kn u = nI (kd n (sgs te u n))) (2 ^ K) ⟨_, rfl, fun u hu => absurd hu (Nat.not_lt_zero _)⟩ ?_ ?_
  · rintro s st again hs ⟨kn, rfl, hkn⟩ hag
    rw [wbX6_prepareSwaps_38]
    refine pk_le (2 ^ K) s (fun z => absurd z (by omega)) (fun _ => ?_)
    refine wp_signs hn5 hte6 (by omega) d2 d6 (wp_kind hn5 (sgs_lt te s n) d2 ⟨vp_in_nI (by omega) (by omega), ?_⟩)
    rw [nI_clamp (by omega), nI_1]
    refine hag _ ⟨_, rfl, fun u hu => ?_⟩
    by_cases e : u = s
    · subst e; rw [pk_us]
    · rw [pk_un e, hkn u (by omega)]
  · rintro st again ⟨kn, rfl, hkn⟩
    rw [wbX6_prepareSwaps_38]
    refine pk_le (2 ^ K) (2 ^ K) (fun _ => ?_) (fun z => absurd z (by omega))
    unfold wpX2_copyFrom
    refine wp_det hn1 hn5 hps hbd rfl hf (fun f2 => wp_settX (by omega) d1 ?_)
    refine wloop_n (fun a st => ∃ tc ts sw, st = ((ouf ti (WS n te (tbp n te id ti (2 ^ K))) (2 ^ K) (WW K n te ti) a).1, (ouf ti (WS n te (tbp n te id ti (2 ^ K))) (2 ^ K) (WW K n te ti) a).2.1, (ouf ti (WS n te (tbp n te id ti (2 ^ K))) (2 ^ K) (WW K n te ti) a).2.2, nI a, tc, ts, sw) ∧ SWI n te ti (tbp n te id ti (2 ^ K)) (2 ^ K) sw) (2 ^ K) ⟨_, _, _, rfl, fun p _ => Or.inl rfl⟩ ?_ ?_
    · rintro a st again ha ⟨tc, ts, sw, rfl, hsw⟩ hag
      have hta := hti a
      rw [wbX6_swap_40]
      refine pk_le (2 ^ K) a (fun z => absurd z (by omega)) (fun _ => ?_)
      refine wloop_n (fun b st => ∃ tc ts sw, st = ((inf ti (WS n te (tbp n te id ti (2 ^ K))) a (ouf ti (WS n te (tbp n te id ti (2 ^ K))) (2 ^ K) (WW K n te ti) a) b).1, (inf ti (WS n te (tbp n te id ti (2 ^ K))) a (ouf ti (WS n te (tbp n te id ti (2 ^ K))) (2 ^ K) (WW K n te ti) a) b).2.1, (inf ti (WS n te (tbp n te id ti (2 ^ K))) a (ouf ti (WS n te (tbp n te id ti (2 ^ K))) (2 ^ K) (WW K n te ti) a) b).2.2, nI b, tc, ts, sw) ∧ SWI n te ti (tbp n te id ti (2 ^ K)) (2 ^ K) sw) (2 ^ K) ⟨tc, ts, sw, rfl, hsw⟩ ?_ ?_
      · rintro s st again2 hs ⟨tc, ts, sw, rfl, hsw⟩ hag2
        have hts := hti s
        rw [wbX6_swap_50]
        refine pk_le (2 ^ K) s (fun z => absurd z (by omega)) (fun _ => ?_)
        rw [nI_clamp (by omega), nI_clamp (by omega), d7 a (by omega), d7 s (by omega), nI_1]
        refine pk_eq s a (fun z2 => hag2 _ ⟨tc, ts, sw, by rw [inf, if_neg (fun e => e.1 z2)], hsw⟩) (fun z2 => ⟨vp_in_nI (by omega) (by omega), pk_eq (ti a) 0 (fun z3 => hag2 _ ⟨tc, ts, sw, by rw [inf, if_neg (fun e => by omega)], hsw⟩) (fun z3 => ⟨vp_in_nI (by omega) (by omega), pk_lt (ti s) 9 (fun z4 => ?_) (fun z4 => hag2 _ ⟨tc, ts, sw, by rw [inf, if_neg (fun e => by omega)], hsw⟩)⟩)⟩)
        refine wp_wos hK6 hn1 hn5 hte6 htz htot d2 d6 hkn hf ha hs z2 (by omega) hsw (fun tc2 ts2 sw2 hsw2 => ⟨fun z5 => hag2 _ ⟨tc2, ts2, sw2, ?_, hsw2⟩, fun z5 => hag2 _ ⟨tc2, ts2, sw2, ?_, hsw2⟩⟩)
        · rw [inf, if_neg (fun e => e.2.2.2 z5)]
        · rw [inf, if_pos ⟨z2, by omega, z4, z5⟩]
      · rintro st again2 ⟨tc, ts, sw, rfl, hsw⟩
        rw [wbX6_swap_50]
        refine pk_le (2 ^ K) (2 ^ K) (fun _ => ?_) (fun z => absurd z (by omega))
        rw [nI_1]
        exact hag _ ⟨tc, ts, sw, by rw [ouf], hsw⟩
    · rintro st again ⟨tc, ts, sw, rfl, hsw⟩
      rw [wbX6_swap_40]
      refine pk_le (2 ^ K) (2 ^ K) (fun _ => ?_) (fun z => absurd z (by omega))
      have RF : (ouf ti (WS n te (tbp n te id ti (2 ^ K))) (2 ^ K) (WW K n te ti) (2 ^ K)).2.1 = -1 → wpM_15 y 0 (fun y9 => LInv x y9 ∧ pot x + 0 ≤ pot x) := fun hm1 => R 0 _ (fun _ => ⟨rfl, fun g b tb w p' hb hG => ⟨⟨Or.inl ⟨hb, K, n, te, ti, wo, mk, c, pl, rd, hV, hD, hG⟩, ⟨h, p, hh, hp, e1, e2, e3, hjj⟩, hP, hC⟩, Nat.le_refl _⟩⟩) (fun a s ha _ _ _ _ ea _ => absurd hm1 (by rw [ea]; exact nI_m1 (by omega)))
      refine ⟨fun z => RF z, fun z => ⟨fun z2 => ?_, fun z2 => ?_⟩⟩
      · rcases ho with ⟨h1, _⟩ | ⟨a, s, ha, hs, hne, h0, h9, ea, es⟩
        · exact absurd h1 z
        · rw [es] at z2; exact absurd z2 (nI_m1 (by omega))
      · rcases ho with ⟨h1, _⟩ | ⟨a, s, ha, hs, hne, h0, h9, ea, es⟩
        · exact absurd h1 z
        · have hta := hti a
          obtain ⟨v, hv⟩ : ∃ v, ti a = v + 1 := ⟨ti a - 1, by omega⟩
          rw [ea, es]
          refine wp_keepX hh hp e1 e2 ⟨vp_in_nI (by omega) (by omega), ?_⟩
          unfold wpX1_tryTimes
          rw [nI_clamp (show a < 2 ^ 31 by omega), nI_clamp (show s < 2 ^ 31 by omega), d7 a (by omega), hv, nI_pred]
          refine ⟨vp_in_nI (by omega) (by omega), vp_in_nI (by omega) (by omega), vp_in_nI (by omega) (by omega), vp_in_nI (by omega) (by omega), vp_in_nI (by omega) (by omega), ?_⟩
          rw [pk_un hne, d7 s (by omega), nI_1]
          refine R 1 _ (fun z' => absurd z' z) (fun a' s' ha' hs' hne' h0' h9' ea' es' => ⟨rfl, fun g b tb w p' kept' hb hG hk => ?_⟩)
          have hR : RR x.1 g := ⟨K, n, te, ti, wo, mk, c, pl, rd, hV, hD, hG⟩
          have ea2 : a' = a := (nI_eq (by omega) (by omega)).1 (by rw [← ea', ea])
          have es2 : s' = s := (nI_eq (by omega) (by omega)).1 (by rw [← es', es])
          subst ea2 es2
          refine ⟨⟨Or.inl ⟨hb, ?_⟩, HI_keep hh hp hjj hR hk, hP, hC⟩, Nat.le_refl _⟩
          show RR (x.1.1, x.1.2.1, x.1.2.2.1 + (nI v - nI (v + 1)) + (nI (ti s' + 1) - nI (ti s')), x.1.2.2.2.1, x.1.2.2.2.2.1, x.1.2.2.2.2.2.1, upd (upd x.1.2.2.2.2.2.2.1 a' (nI v)) s' (nI (ti s' + 1)), x.1.2.2.2.2.2.2.2) (upd (upd g (7 + a') (nI (ti a' - 1))) (7 + s') (nI (ti s' + 1)))
          have hts := hti s'
          have G : ∀ q, q ≠ 7 + a' → q ≠ 7 + s' → upd (upd g (7 + a') (nI (ti a' - 1))) (7 + s') (nI (ti s' + 1)) q = g q := fun q h1 h2 => by rw [pk_un h2, pk_un h1]
          have ht1 : tot (tup (tdc ti a') s') 64 = tot ti 64 := by rw [tot_up (by omega), tot_dc (by omega) h0']; omega
          obtain ⟨g1, g2, g3, g4, g5, g6, g7, g8, g9⟩ := hG
          refine ⟨K, n, te, tup (tdc ti a') s', wo, mk, c, pl, rd, ⟨⟨hK1, hK6⟩, ⟨hn1, hn5⟩, hte, hdi, fun t => ?_, fun t ht => ?_, by rw [ht1]; exact htot, hwo, hin, hmk, hc, hpl, hrd⟩, ⟨d1, d2, ?_, d4, d5, d6, fun t ht => ?_, d8, d9, d10, d11⟩, ⟨by rw [G _ (by omega) (by omega), g1], by rw [G _ (by omega) (by omega), g2], fun i hi => by rw [G _ (by omega) (by omega), g3 i hi], fun t ht => ?_, fun i hi => by rw [G _ (by omega) (by omega), g5 i hi], fun i hi h0 => by rw [G _ (by omega) (by omega), g6 i hi h0], by rw [G _ (by omega) (by omega), g7], fun t ht => by rw [G _ (by omega) (by omega), g8 t ht], fun t ht => by rw [G _ (by omega) (by omega), g9 t ht]⟩⟩
          · have := hti t
            by_cases e : t = s'
            · subst e; rw [tup_s, tdc_n hne]; omega
            · rw [tup_n e]; unfold tdc; split <;> omega
          · have := htz t ht
            rw [tup_n (by omega), tdc_n (by omega)]; exact this
          · show x.1.2.2.1 + (nI v - nI (v + 1)) + (nI (ti s' + 1) - nI (ti s')) = _
            rw [d3, ht1, nI_iI v, nI_iI (v + 1), nI_iI (ti s' + 1), nI_iI (ti s'), iI_sub, iI_sub, iI_add, iI_add]
            congr 1; omega
          · show upd (upd x.1.2.2.2.2.2.2.1 a' (nI v)) s' (nI (ti s' + 1)) t = _
            by_cases e : t = s'
            · subst e; rw [pk_us, tup_s, tdc_n hne]
            · rw [pk_un e, tup_n e]
              by_cases e2 : t = a'
              · subst e2; rw [pk_us, tdc_s, hv]; rfl
              · rw [pk_un e2, tdc_n e2]; exact d7 t ht
          · by_cases e : t = s'
            · subst e; rw [pk_us, tup_s, tdc_n hne]
            · rw [pk_un (by omega), tup_n e]
              by_cases e2 : t = a'
              · subst e2; rw [pk_us, tdc_s]
              · rw [pk_un (by omega), tdc_n e2]; exact g4 t ht
