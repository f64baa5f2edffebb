/-! the steps: widest, needed -/
theorem and_xor (a b c : Nat) : (a ^^^ b) &&& c = (a &&& c) ^^^ (b &&& c) := by
  apply Nat.eq_of_testBit_eq
  intro i
  simp only [Nat.testBit_xor, Nat.testBit_and]
  cases a.testBit i <;> cases b.testBit i <;> cases c.testBit i <;> rfl
theorem sgx_tab : ∀ a, a < 64 → ∀ b, b < 64 → sg (pc a) * sg (pc b) = sg (pc (a ^^^ b)) := by decide +kernel
theorem and_lt64 {a : Nat} (b : Nat) (h : a < 64) : a &&& b < 64 := Nat.lt_of_le_of_lt Nat.and_le_left h
theorem ch_xor {t u : Nat} (ht : t < 64) (hu : u < 64) (s : Nat) : ch t s * ch u s = ch (t ^^^ u) s := by
  unfold ch
  rw [and_xor, sgx_tab _ (and_lt64 _ ht) _ (and_lt64 _ hu)]
theorem chs_tab : ∀ K, K < 7 → ∀ m, m < 64 → m < 2 ^ K → m ≠ 0 → sm (2 ^ K) (fun s => ch m s) = 0 := by decide +kernel
theorem ch_0 (s : Nat) : ch 0 s = 1 := by unfold ch; rw [Nat.zero_and]; rfl
theorem sm_const (n : Nat) (c : Int) : sm n (fun _ => c) = n * c := by
  induction n with
  | zero => simp [sm]
  | succ n ih => rw [sm, ih, Int.natCast_succ, Int.add_mul, Int.one_mul]
theorem xor_lt2 {K a b : Nat} (ha : a < 2 ^ K) (hb : b < 2 ^ K) : a ^^^ b < 2 ^ K := Nat.xor_lt_two_pow ha hb
theorem xor_ne {a b : Nat} (h : a ≠ b) : a ^^^ b ≠ 0 := fun e => h (by
  have h1 : a ^^^ b ^^^ b = a := by rw [Nat.xor_assoc, Nat.xor_self, Nat.xor_zero]
  rw [e, Nat.zero_xor] at h1
  exact h1.symm)
theorem orth {K : Nat} (hK : K ≤ 6) {t u : Nat} (ht : t < 2 ^ K) (hu : u < 2 ^ K) : sm (2 ^ K) (fun s => ch t s * ch u s) = if t = u then (2 ^ K : Nat) else 0 := by
  have h64 := p64 hK
  by_cases e : t = u
  · subst e
    rw [if_pos rfl, sm_congr (fun s _ => ch_sq t s), sm_const]; omega
  · rw [if_neg e, sm_congr (fun s _ => ch_xor (by omega) (by omega) s)]
    have hx := xor_lt2 ht hu
    exact chs_tab K (by omega) _ (by omega) hx (xor_ne e)
/-- below full rank some SETTING's SUM is not KNOWN -/
theorem not_all {K n : Nat} {te : Nat → Nat} {T : Nat → Nat → Int} (hK : K ≤ 6) (hT : psd n T) (hte : ∀ i, i < n → te i < 2 ^ K) (hdi : ∀ i j, i < j → j < n → te i ≠ te j) (hr : (gln T n).1 < n) (hall : ∀ s, s < 2 ^ K → ∀ j, j < n → UU T (gln T n).2 (gln T n).1 (fun i => ch (te i) s) j = 0) : False := by
  obtain ⟨g1, g2, g3, g4⟩ := gln_ok hT n (Nat.le_refl _)
  obtain ⟨k, hk, hz⟩ : ∃ k, k < n ∧ UU T (gln T k).2 (gln T k).1 (fun i => T i k) k = 0 := by
    refine Classical.byContradiction (fun hno => ?_)
    have : ∀ m, m ≤ n → (gln T m).1 = m := by
      intro m
      induction m with
      | zero => intro _; rfl
      | succ m ih =>
        intro hm
        rw [gln_succ, if_neg (fun e => hno ⟨m, by omega, e⟩), ih (by omega)]
    have := this n (Nat.le_refl _)
    omega
  obtain ⟨v, v1, v2, v3⟩ := (pick_ker hT hk).1 hz
  have hx : ∀ s, s < 2 ^ K → sm n (fun j => v j * ch (te j) s) = 0 := fun s hs => by
    have kd := known_dot hT.1 (fun i => ch (te i) s) v (hall s hs)
    rw [sm_zero (n := (gln T n).1) (fun a ha => by rw [v3 _ (g2 a ha)]; simp)] at kd
    rcases Int.mul_eq_zero.1 kd with h | h
    · omega
    · exact h
  have e1 : sm (2 ^ K) (fun s => sm n (fun j => v j * ch (te j) s) * ch (te k) s) = 0 := sm_zero (fun s hs => by rw [hx s hs]; simp)
  have e2 : sm (2 ^ K) (fun s => sm n (fun j => v j * ch (te j) s) * ch (te k) s) = v k * (2 ^ K : Nat) := by
    rw [sm_congr (fun s _ => (sm_mulr n (ch (te k) s) (fun j => v j * ch (te j) s)).symm), sm_swap]
    rw [sm_single hk (fun j hj hne => ?_)]
    · rw [sm_congr (fun s _ => Int.mul_assoc (v k) (ch (te k) s) (ch (te k) s)), sm_mul, orth hK (hte k hk) (hte k hk), if_pos rfl]
    · rw [sm_congr (fun s _ => Int.mul_assoc (v j) (ch (te j) s) (ch (te k) s)), sm_mul, orth hK (hte j hj) (hte k hk), if_neg]
      · simp
      · rcases Nat.lt_or_gt_of_ne hne with h | h
        · exact hdi j k h hk
        · exact fun e => hdi k j h hj e.symm
  rw [e1] at e2
  have hp : (0 : Int) < (2 ^ K : Nat) := by have := Nat.two_pow_pos K; omega
  rcases Int.mul_eq_zero.1 e2.symm with h | h
  · exact v1 h
  · omega
theorem wp_spreadAt {n : Nat} (hn : n ≤ 5) {te : Nat → Nat} (hte : ∀ i, i < n → te i < 64) {T : Nat → Nat → Int} (hT : ∀ i j, T i j = T j i) {ln : Nat → Nat} {r : Nat} (hi : inj ln r) (hl : ∀ a, a < r → ln a < n) {cells : Nat → Int64} {sw : Nat → Int32} {tc : Int32} {terms : Nat → Int32} (htc : tc = nI n) (ht : ∀ i, i < n → terms i = nI (te i)) (hc : GC n cells (CV T ln r)) (hsw : SP n sw ln r) {s : Nat} (hs : s < 64) {line : Nat → Int64} {k : Int64 → (Nat → Int64) → Prop}
    (h : ∀ line', k (lI (QQ T ln r (fun i => ch (te i) s) (fun i => ch (te i) s))) line') : wpX6_spreadAt tc terms cells sw (nI n) line (nI s) k := by
  unfold wpX6_spreadAt
  refine wp_signs hn hte hs htc ht ?_
  have hm : sgs te s n < 64 := Nat.lt_of_lt_of_le (sgs_lt te s n) (Nat.le_trans (p5 n (by omega)) (by omega))
  refine wloop_n (fun i st => ∃ f, st = (nI i, f) ∧ ∀ j, j < i → j < n → f j = lI (ch (te j) s)) 5 ⟨line, rfl, fun j hj => absurd hj (Nat.not_lt_zero _)⟩ ?_ ?_
  · rintro i st again hi ⟨f, rfl, hf⟩ hag
    rw [wbX6_spreadAt_11]
    refine pk_le 5 i (fun z => absurd z (by omega)) (fun _ => ?_)
    rw [(tb1 _ hm i (by omega)).1, nI_clamp (by omega), nI_1]
    refine ⟨fun z => ⟨vp_in_nI hi (by omega), hag _ ⟨_, rfl, fun j hj hjn => ?_⟩⟩, fun z => ⟨vp_in_nI hi (by omega), hag _ ⟨_, rfl, fun j hj hjn => ?_⟩⟩⟩
    · by_cases e : j = i
      · subst e; rw [pk_uLs, ← sgs_ch hjn, z]; rfl
      · rw [pk_uLn e, hf j (by omega) hjn]
    · by_cases e : j = i
      · subst e; rw [pk_uLs, ← sgs_ch hjn, show sgs te s n / 2 ^ j % 2 = 1 by omega]; rfl
      · rw [pk_uLn e, hf j (by omega) hjn]
  · rintro st again ⟨f, rfl, hf⟩
    rw [wbX6_spreadAt_11, measure_same]
    refine pk_le 5 5 (fun _ => ?_) (fun z => absurd z (by omega))
    exact wp_measure hn hT hi hl rfl hc hsw (fun i hi => hf i (by omega) hi) (fun i hi => hf i (by omega) hi) (h f)
/-- the widest SPREAD, SETTING by SETTING -/
def wf (Q : Nat → Int64) : Nat → Int64 × Int32
  | 0 => (-1, -1)
  | s + 1 => if Q s ≤ (wf Q s).1 then wf Q s else (Q s, nI s)
theorem ch_abs (t s : Nat) : (ch t s).natAbs ≤ 9 := by rcases ch_1 t s with h | h <;> rw [h] <;> decide
theorem lb_step_11 (x : XS) (y : MS) (a1 : Int32) (h : LInv x y) : ∃ bud, bud ≤ 49152 ∧ wpL_11 x y a1 bud (fun x9 y9 => LInv x9 y9 ∧ pot x + bud ≤ pot x9) := by
  refine ⟨0, by omega, ?_⟩
  obtain ⟨hB, hH, hP, hC⟩ := h
  obtain ⟨K, n, te, ti, wo, mk, c, pl, rd, hV, hD, hbg⟩ := BR_open hB
  obtain ⟨hps, hbd⟩ := plan_psd hV
  have hV' := hV
  obtain ⟨⟨hK1, hK6⟩, ⟨hn1, hn5⟩, hte, hdi, hti, htz, htot, hwo, hin, hmk, hc, hpl, hrd⟩ := hV'
  have hD' := hD
  obtain ⟨d1, d2, d3, d4, d5, d6, d7, d8, d9, d10, d11⟩ := hD'
  have h64 := p64 hK6
  have hte6 : ∀ i, i < n → te i < 64 := fun i hi => by have := hte i hi; omega
  have h0S : 0 < 2 ^ K := Nat.two_pow_pos K
  unfold wpL_11 wpX6_widest
  obtain ⟨q1, q2, q3, q4⟩ := gln_ok hps n (Nat.le_refl _)
  have b5 := DDb (ln := (gln (tbp n te id ti (2 ^ K)) n).2) (show (gln (tbp n te id ti (2 ^ K)) n).1 ≤ 5 by omega) hbd
  have qi := gln_inj hps (Nat.le_refl _)
  have qa := gln_hall hps
  have main : (a1 = 0 ∨ a1 = 1 ∨ a1 = 2) → ∀ k' : Int64 → (Nat → Int64) → (Nat → Int32) → Int32 → Int32 → Int64 → (Nat → Int64) → Prop, (∀ r v1 v2 v3 v4 v5 v6, wpM_11 y a1 r (fun y9 => LInv x y9 ∧ pot x + 0 ≤ pot x) → k' r v1 v2 v3 v4 v5 v6) → wjX6_widest_16 x.1.1 x.1.2.1 x.1.2.2.2.2.2.1 x.1.2.2.2.2.2.2.1 x.2.2.1.1 x.2.2.1.2.1 x.2.2.1.2.2.1 x.2.2.1.2.2.2.1 x.2.2.1.2.2.2.2 x.2.2.2.2.2.2.2.2.1 a1 k' := by
    intro ha k' hk'
    have hnn : ¬ a1 < 0 ∧ a1 ≤ 2 := by rcases ha with rfl | rfl | rfl <;> exact ⟨by decide, by decide⟩
    unfold wjX6_widest_16
    refine wp_sweepPlan (by omega) hn5 hte6 (fun s _ => by have := hti s; omega) hps hbd d1 d2 d6 d7 (fun f sw' h1 h2 => ?_)
    rw [d2]
    have hM : ∀ res : Int64, ((gln (tbp n te id ti (2 ^ K)) n).1 < n → res = -1) → ((gln (tbp n te id ti (2 ^ K)) n).1 = n → res = if a1 = 2 then (wf (fun s => lI (QQ (tbp n te id ti (2 ^ K)) (gln (tbp n te id ti (2 ^ K)) n).2 (gln (tbp n te id ti (2 ^ K)) n).1 (fun i => ch (te i) s) (fun i => ch (te i) s))) (2 ^ K)).2.toInt64 else fr (wf (fun s => lI (QQ (tbp n te id ti (2 ^ K)) (gln (tbp n te id ti (2 ^ K)) n).2 (gln (tbp n te id ti (2 ^ K)) n).1 (fun i => ch (te i) s) (fun i => ch (te i) s))) (2 ^ K)).1 (lI (DD (tbp n te id ti (2 ^ K)) (gln (tbp n te id ti (2 ^ K)) n).2 (gln (tbp n te id ti (2 ^ K)) n).1)) a1) → wpM_11 y a1 res (fun y9 => LInv x y9 ∧ pot x + 0 ≤ pot x) := by
      intro res r1 r2
      unfold wpM_11 wpX7_widest
      refine hbg _ (fun g b hb hG => ⟨fun z => absurd z hnn.1, fun _ => ⟨fun _ => ?_, fun z => absurd hnn.2 z⟩⟩)
      refine wp_tabP (by omega) hn5 hte6 (fun s _ => by have := hti s; omega) hG.1 hG.2.1 hG.2.2.1 hG.2.2.2.1 (fun tb htb => ?_)
      have na := not_all (T := tbp n te id ti (2 ^ K)) hK6 hps hte hdi
      generalize hTT : tbp n te id ti (2 ^ K) = T at *
      have hg5 : (gln T n).1 ≤ 5 := by omega
      refine wloop_n (fun s st => ∃ w p l lnn bs sd un sm2, st = ((wf (fun s => lI (QQ T (gln T n).2 (gln T n).1 (fun i => ch (te i) s) (fun i => ch (te i) s))) s).1, (wf (fun s => lI (QQ T (gln T n).2 (gln T n).1 (fun i => ch (te i) s) (fun i => ch (te i) s))) s).2, nI s, w, p, l, lnn, bs, sd, un, sm2) ∧ (0 < s → bs = lI (DD T (gln T n).2 (gln T n).1)) ∧ ∀ s', s' < s → ∀ j, j < n → UU T (gln T n).2 (gln T n).1 (fun i => ch (te i) s') j = 0) (2 ^ K) ⟨_, _, _, _, _, _, _, _, rfl, fun z => absurd z (by omega), fun s' hs' => absurd hs' (Nat.not_lt_zero _)⟩ ?_ ?_
      · rintro s st again hs ⟨w, p, l, lnn, bs, sd, un, sm2, rfl, hbs, hkn⟩ hag
        rw [wbX7_widest_37]
        refine wp_settM (by omega) hG.1 ?_
        refine pk_le (2 ^ K) s (fun z => absurd z (by omega)) (fun _ => ?_)
        refine wloop_n (fun i st => ∃ f, st = (nI i, f) ∧ ∀ j, j < i → f j = lI (ch (te j) s)) n ⟨sm2, rfl, fun j hj => absurd hj (Nat.not_lt_zero _)⟩ ?_ ?_
        · rintro i st again2 hi ⟨f, rfl, hf⟩ hag2
          rw [wbX7_widest_49, hG.2.1]
          refine pk_le n i (fun z => absurd z (by omega)) (fun _ => ?_)
          rw [show (2 : Int32) + nI i = nI (2 + i) from nI_add 2 i, nI_clamp (show 2 + i < 2 ^ 31 by omega), hG.2.2.1 i hi]
          refine ⟨vp_in_nI (by omega) (by omega), wp_markM (hte6 i hi) (by omega) ⟨vp_in_nI (by omega) (by omega), ?_⟩⟩
          rw [nI_clamp (by omega), iI_l (by have := ch_abs (te i) s; omega) (by have := ch_abs (te i) s; omega), nI_1]
          refine hag2 _ ⟨_, rfl, fun j hj => ?_⟩
          by_cases e : j = i
          · subst e; rw [pk_uLs]
          · rw [pk_uLn e, hf j (by omega)]
        · rintro st again2 ⟨f, rfl, hf⟩
          rw [wbX7_widest_49, hG.2.1]
          refine pk_le n n (fun _ => ?_) (fun z => absurd z (by omega))
          refine wp_isKnown hn5 hbd hG.2.1 (fun i j hi hj => htb i j (by omega) (by omega)) (fun i hi => hf i hi) (fun i hi => ch_abs _ _) (fun hall w1 p1 ln' sd1 un1 hln => ⟨fun z => absurd z (by decide), fun _ => ?_⟩) (fun j hj hne _ _ _ _ _ _ => ⟨fun _ => ⟨fun _ => ⟨⟨Or.inl ⟨hb, K, n, te, ti, wo, mk, c, pl, rd, hV, hD, hG⟩, hH, hP, hC⟩, Nat.le_refl _⟩, fun z => z ?_⟩, fun z => absurd rfl z⟩)
          · rw [given_same]
            refine wp_given hn5 hg5 q2 (fun i j hi hj => htb i j (by omega) (by omega)) hln (fun i hi => hf i hi) (fun i hi => hf i hi) (fun w2 p2 => ?_)
            have hkn2 : ∀ s', s' < s + 1 → ∀ j, j < n → UU T (gln T n).2 (gln T n).1 (fun i => ch (te i) s') j = 0 := fun s' hs' => by
              by_cases e : s' = s
              · subst e; exact hall
              · exact hkn s' (by omega)
            refine ⟨fun z => ?_, fun z => ?_⟩
            · refine hag _ ⟨w2, p2, nI (gln T n).1, ln', lI (DD T (gln T n).2 (gln T n).1), sd1, un1, f, ?_, fun _ => rfl, hkn2⟩
              rw [wf, if_neg (Int64.not_le.2 z), nI_1]
            · refine hag _ ⟨w2, p2, nI (gln T n).1, ln', lI (DD T (gln T n).2 (gln T n).1), sd1, un1, f, ?_, fun _ => rfl, hkn2⟩
              rw [wf, if_pos (Int64.not_lt.1 z), nI_1]
          · rcases Nat.lt_or_ge (gln T n).1 n with h | h
            · exact r1 h
            · exfalso
              have e : (gln T n).1 = n := by omega
              obtain ⟨a, ha, ea⟩ := qa e j hj
              refine hne ?_
              rw [← ea]; exact UU_line T _ _ _ ha
      · rintro st again ⟨w, p, l, lnn, bs, sd, un, sm2, rfl, hbs, hkn⟩
        rw [wbX7_widest_37]
        refine wp_settM (by omega) hG.1 ?_
        refine pk_le (2 ^ K) (2 ^ K) (fun _ => ?_) (fun z => absurd z (by omega))
        have hfull : (gln T n).1 = n := by
          rcases Nat.lt_or_ge (gln T n).1 n with h | h
          · exact (na h hkn).elim
          · omega
        have r3 := r2 hfull
        have L : LInv x ((y.1.1, b, g, y.1.2.2.2), (0, l, bs, tb, w, p, lnn, sd, un, sm2, y.2.1.2.2.2.2.2.2.2.2.2.2), y.2.2) := ⟨Or.inl ⟨hb, K, n, te, ti, wo, mk, c, pl, rd, hV, hD, hG⟩, hH, hP, hC⟩
        refine ⟨fun z => ⟨fun _ => ⟨L, Nat.le_refl _⟩, fun z2 => z2 ?_⟩, fun z => ?_⟩
        · rw [r3, if_pos z]
        · rw [hbs h0S] at L ⊢
          refine wp_share q4 (by omega) ⟨fun _ => ⟨L, Nat.le_refl _⟩, fun z2 => z2 ?_⟩
          rw [r3, if_neg z]
    generalize hTT : tbp n te id ti (2 ^ K) = T at *
    have hg5 : (gln T n).1 ≤ n := by omega
    refine pk_le n (gln T n).1 (fun z => ?_) (fun z => hk' _ _ _ _ _ _ _ (hM (-1) (fun _ => rfl) (fun e => absurd e (by omega))))
    refine wp_settX (by omega) d1 ?_
    refine wloop_n (fun s st => ∃ ln, st = ((wf (fun s => lI (QQ T (gln T n).2 (gln T n).1 (fun i => ch (te i) s) (fun i => ch (te i) s))) s).1, (wf (fun s => lI (QQ T (gln T n).2 (gln T n).1 (fun i => ch (te i) s) (fun i => ch (te i) s))) s).2, nI s, ln)) (2 ^ K) ⟨_, rfl⟩ ?_ ?_
    · rintro s st again hs ⟨lnn, rfl⟩ hag
      rw [wbX6_widest_60]
      refine pk_le (2 ^ K) s (fun z => absurd z (by omega)) (fun _ => ?_)
      refine wp_spreadAt hn5 hte6 hps.1 qi q2 rfl d6 h1 h2 (by omega) (fun line' => ⟨fun z => hag _ ⟨line', ?_⟩, fun z => hag _ ⟨line', ?_⟩⟩)
      · rw [wf, if_pos z, nI_1]
      · rw [wf, if_neg z, nI_1]
    · rintro st again ⟨lnn, rfl⟩
      rw [wbX6_widest_60]
      refine pk_le (2 ^ K) (2 ^ K) (fun _ => ⟨fun z => hk' _ _ _ _ _ _ _ (hM _ (fun e => absurd e (by omega)) (fun _ => by rw [if_pos z])), fun z => ?_⟩) (fun z => absurd z (by omega))
      exact wp_part q4 (by omega) (hk' _ _ _ _ _ _ _ (hM _ (fun e => absurd e (by omega)) (fun _ => by rw [if_neg z])))
  refine wp_frac a1 (fun f01 => ⟨fun z => absurd z (by decide), fun _ => ?_⟩) (fun n0 n1 => ⟨fun _ => ⟨fun z => ?_, fun z => ?_⟩, fun z => absurd rfl z⟩)
  · refine main (by rcases f01 with h | h; exact Or.inl h; exact Or.inr (Or.inl h)) _ (fun r v1 v2 v3 v4 v5 v6 h => h)
  · exact main (Or.inr (Or.inr z)) _ (fun r v1 v2 v3 v4 v5 v6 h => h)
  · unfold wpM_11 wpX7_widest
    refine hbg _ (fun g b hb hG => ?_)
    have L : LInv x ((y.1.1, b, g, y.1.2.2.2), (0, y.2.1.2), y.2.2) := ⟨Or.inl ⟨hb, K, n, te, ti, wo, mk, c, pl, rd, hV, hD, hG⟩, hH, hP, hC⟩
    refine ⟨fun _ => ⟨fun _ => ⟨L, Nat.le_refl _⟩, fun z => z rfl⟩, fun z1 => ⟨fun z2 => ?_, fun _ => ⟨fun _ => ⟨L, Nat.le_refl _⟩, fun z => z rfl⟩⟩⟩
    obtain ⟨j, hj, rfl⟩ := nI_of2 (x := a1) (M := 2) (n := 2) rfl z1 z2
    have : j = 0 ∨ j = 1 ∨ j = 2 := by omega
    rcases this with rfl | rfl | rfl
    · exact absurd rfl n0
    · exact absurd rfl n1
    · exact absurd rfl z
