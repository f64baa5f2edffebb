/-! parts: the reference's search -/
def VTs (S k : Nat) (v : Nat → Nat) : Prop := TW k v ∧ (∀ i, i < k → v i < S) ∧ ∀ i, i + 1 < k → v i < v (i + 1)
def DDs (S k : Nat) (t : Nat → Nat) (l : Nat) (v : Nat → Nat) : Prop := VTs S k v ∧ ((∃ j, j < l ∧ (∀ i, i < j → v i = t i) ∧ v j < t j) ∨ ((∀ i, i < l → v i = t i) ∧ v l ≤ t l))
def JRs (S k : Nat) (D : (Nat → Nat) → Prop) (fd : Int32) (br bh bw : Nat → Int32) : Prop :=
  ((∀ v, ¬ D v) ∧ fd = 0) ∨ ∃ u, D u ∧ fd = 1 ∧ (∀ v, D v → ¬ RBT S k v u) ∧ HS k u br bh ∧ ∀ i, i < 4 → k ≤ i → bw i = 0
theorem JRs_cong {S k : Nat} {D D' : (Nat → Nat) → Prop} {fd : Int32} {br bh bw : Nat → Int32} (h : ∀ u, D u ↔ D' u) (hj : JRs S k D fd br bh bw) : JRs S k D' fd br bh bw := by
  have e : D = D' := funext (fun u => propext (h u))
  subst e; exact hj
def mms (d : Nat → Nat) : Nat := ((d 0 * 133 + d 1) * 133 + d 2) * 133 + d 3
theorem mms_lt {d d' : Nat → Nat} (hb : ∀ i, d' i ≤ 132) {p : Nat} (hp : p < 4) (he : ∀ i, i < p → d' i = d i) (hl : d' p < d p) : mms d' < mms d := by
  unfold mms
  have b0 := hb 0
  have b1 := hb 1
  have b2 := hb 2
  have b3 := hb 3
  have c : p = 0 ∨ p = 1 ∨ p = 2 ∨ p = 3 := by omega
  rcases c with rfl | rfl | rfl | rfl
  · omega
  · have e0 := he 0 (by omega); omega
  · have e0 := he 0 (by omega); have e1 := he 1 (by omega); omega
  · have e0 := he 0 (by omega); have e1 := he 1 (by omega); have e2 := he 2 (by omega); omega
def dms (S l : Nat) (t : Nat → Nat) (i : Nat) : Nat := if i < l then 2 * (S + 1 - t i) + 1 else if i = l then 2 * (S + 1 - t i) else 132
theorem dms_b {S : Nat} (hS : S ≤ 64) (l : Nat) (t : Nat → Nat) (i : Nat) : dms S l t i ≤ 132 := by
  unfold dms
  by_cases c : i < l
  · rw [if_pos c]; omega
  · rw [if_neg c]
    by_cases e : i = l
    · rw [if_pos e]; omega
    · rw [if_neg e]; exact Nat.le_refl _
theorem dms_lo {S l : Nat} {t : Nat → Nat} {i : Nat} (h : i < l) : dms S l t i = 2 * (S + 1 - t i) + 1 := if_pos h
theorem dms_at {S l : Nat} {t : Nat → Nat} : dms S l t l = 2 * (S + 1 - t l) := by unfold dms; rw [if_neg (Nat.lt_irrefl l), if_pos rfl]
theorem pn_pre {t : Nat → Nat} : ∀ {i : Nat}, i ≤ 4 → (∀ j, j < i → t j ≠ 0) → pn t 4 i = i
  | 0, _, _ => rfl
  | i + 1, hi, h => by rw [pn, pn_pre (i := i) (by omega) (fun j hj => h j (by omega)), if_pos ⟨by omega, h i (by omega)⟩]
theorem pf_pre {t : Nat → Nat} {i : Nat} (hi : i < 4) (h : ∀ j, j < i + 1 → t j ≠ 0) (j : Nat) : pf t 4 (i + 1) j = if j < 2 ^ i then pf t 4 i j else pf t 4 i (j - 2 ^ i) ^^^ t i := by
  rw [pf, pn_pre (by omega) (fun j hj => h j (by omega)), if_pos ⟨by omega, h i (by omega)⟩]
theorem wp_isPn {k : Nat} {v : Nat → Nat} (e : pn v 4 k = k) (hk : k ≤ 4) (hv6 : ∀ i, v i < 64) {t : Nat} (ht : t < 64) {product : Nat → Int32} (hp : ∀ j, j < 2 ^ k → product j = nI (pf v 4 k j)) {kk : Int32 → Prop} (h1 : sp v 4 k t → kk 1) (h0 : ¬ sp v 4 k t → kk 0) : wpX7_isProduct (nI (2 ^ k)) product (nI t) kk := by
  refine wp_isProd (p2m k (by omega)) (pf_lt hv6 4 k) ht hp (fun ⟨j, hj, ej⟩ => h1 ((sp_pf v 4 k t).2 ⟨j, by rw [e]; exact hj, ej⟩)) (fun hn => h0 (fun hs => ?_))
  obtain ⟨j, hj, ej⟩ := (sp_pf v 4 k t).1 hs
  rw [e] at hj
  exact hn j hj ej
theorem wp_searchM {K k : Nat} (hK : K ≤ 6) (hk1 : 1 ≤ k) (hk : k ≤ 4) {g : Nat → Int32} (hg : g 0 = nI K) {ks b2 : Int32} {kept : Nat → Int32} {KK : Int32 → Int32 → (Nat → Int32) → (Nat → Int32) → Int32 → Int32 → Int32 → (Nat → Int32) → (Nat → Int32) → (Nat → Int32) → (Nat → Int32) → (Nat → Int32) → Prop} {pr : Int32} {prd br bh bw tr : Nat → Int32} (h : ∀ fd pr' prd' br' bh' bw' tr', JRs (2 ^ K) k (VTs (2 ^ K) k) fd br' bh' bw' → wjX7_bestPart_199 ks kept (nI k) KK g b2 pr' prd' br' bh' bw' tr') : wloop (wbX7_bestPart_41 ks kept (nI k) KK g b2) ((0 : Int32), (0 : Int32), pr, prd, br, bh, bw, upd tr 0 (0 : Int32)) := by
  have hS := p64 hK
  have hp0 := Nat.two_pow_pos K
  refine wloop_i (fun m st => ∃ fd pr prd br bh bw tr, (∃ l t, st = (fd, nI l, pr, prd, br, bh, bw, tr) ∧ l < k ∧ (∀ i, i ≤ l → tr i = nI (t i)) ∧ (∀ i, i < l → 1 ≤ t i) ∧ (∀ i, i < l → t i ≤ t (i + 1)) ∧ (∀ i, i + 1 < l → t i < t (i + 1)) ∧ (∀ m, m < l → ¬ sp t 4 m (t m)) ∧ (∀ i, t i < 2 ^ K) ∧ (∀ i, l < i → t i = 0) ∧ JRs (2 ^ K) k (DDs (2 ^ K) k t l) fd br bh bw ∧ m = mms (dms (2 ^ K) l t)) ∨ (st = (fd, -1, pr, prd, br, bh, bw, tr) ∧ JRs (2 ^ K) k (VTs (2 ^ K) k) fd br bh bw)) (m0 := mms (dms (2 ^ K) 0 (fun _ => 0))) ?_ ?_
  · refine ⟨0, pr, prd, br, bh, bw, upd tr 0 0, Or.inl ⟨0, fun _ => 0, rfl, by omega, fun i hi => ?_, fun i hi => absurd hi (Nat.not_lt_zero _), fun i hi => absurd hi (Nat.not_lt_zero _), fun i hi => absurd hi (Nat.not_lt_zero _), fun i hi => absurd hi (Nat.not_lt_zero _), fun _ => hp0, fun _ _ => rfl, Or.inl ⟨fun v hv => ?_, rfl⟩, rfl⟩⟩
    · have e : i = 0 := by omega
      subst e; rw [pk_us]; rfl
    · obtain ⟨hv, ⟨j, hj, _⟩ | ⟨_, q⟩⟩ := hv
      · exact absurd hj (Nat.not_lt_zero _)
      · have := hv.1.1 0 (by omega)
        have q' : v 0 ≤ 0 := q
        omega
  · rintro m st again ⟨fd, pr, prd, br, bh, bw, tr, ⟨l, t, rfl, hl, htr, h1, hle, hinc, hind, htS, hz, hj, hm⟩ | ⟨rfl, hj⟩⟩ hag
    · have ht6 : ∀ i, t i < 64 := fun i => by have := htS i; omega
      rw [wbX7_bestPart_41]
      refine ⟨fun z => absurd z (nI_pos (by omega)), fun _ => pk_le k 0 (fun z => absurd z (by omega)) (fun _ => ⟨vp_in_nI (by omega) (by omega), vp_in_nI (by omega) (by omega), vp_in_nI (by omega) (by omega), ?_⟩)⟩
      rw [nI_clamp (show l < 2 ^ 31 by omega), htr l (Nat.le_refl _), nI_1, pk_us]
      have htl := ht6 l
      refine wp_settM (by omega) hg (pk_lt (t l + 1) (2 ^ K) (fun zc => ?_) (fun zc => ?_))
      · -- a word is tried
        generalize hc : t l + 1 = c at *
        have hc6 : c < 64 := by omega
        have nz : ∀ j, j < l → t j ≠ 0 := fun j hj2 => by have := h1 j hj2; omega
        have nz' : ∀ j, j < l + 1 → apd t l c j ≠ 0 := fun j hj2 => by
          by_cases e : j = l
          · subst e; rw [apd_s]; omega
          · rw [apd_n e]; exact nz j (by omega)
        have hle' : ∀ i, i < l → apd t l c i ≤ apd t l c (i + 1) := fun i hi => by
          rw [apd_n (by omega)]
          by_cases e : i + 1 = l
          · rw [e, apd_s]; have := hle i hi; rw [e] at this; omega
          · rw [apd_n e]; exact hle i hi
        have hlt' : ∀ i, i < l → apd t l c i < apd t l c (i + 1) := fun i hi => by
          rw [apd_n (by omega)]
          by_cases e : i + 1 = l
          · rw [e, apd_s]; have := hle i hi; rw [e] at this; omega
          · rw [apd_n e]; exact hinc i (by omega)
        have hS' : ∀ i, apd t l c i < 2 ^ K := fun i => by
          by_cases e : i = l
          · subst e; rw [apd_s]; omega
          · rw [apd_n e]; exact htS i
        have h6' : ∀ i, apd t l c i < 64 := fun i => by have := hS' i; omega
        have hz' : ∀ i, l < i → apd t l c i = 0 := fun i hi => by rw [apd_n (by omega)]; exact hz i hi
        have htr' : ∀ i, i ≤ l → upd tr l (nI c) i = nI (apd t l c i) := fun i hi => by
          by_cases e : i = l
          · subst e; rw [pk_us, apd_s]
          · rw [pk_un e, apd_n e]; exact htr i hi
        have hind' : ∀ m, m < l → ¬ sp (apd t l c) 4 m (apd t l c m) := fun m hm2 => by
          rw [sp_apd (by omega), apd_n (by omega)]; exact hind m hm2
        have hlt2 : mms (dms (2 ^ K) l (apd t l c)) < m := by
          rw [hm]
          refine mms_lt (dms_b hS l _) (p := l) (by omega) (fun i hi => ?_) ?_
          · rw [dms_lo hi, dms_lo hi, apd_n (by omega)]
          · rw [dms_at, dms_at, apd_s]; omega
        refine wloop_n (fun i st => ∃ f, st = (nI i, nI (2 ^ i), f) ∧ ∀ j, j < 2 ^ i → f j = nI (pf t 4 i j)) l ⟨upd prd 0 0, rfl, fun j hj2 => ?_⟩ ?_ ?_
        · have e : j = 0 := by rw [Nat.pow_zero] at hj2; omega
          subst e; rw [pk_us]; rfl
        · rintro i st again2 hi ⟨f, rfl, hf⟩ hag2
          rw [wbX7_bestPart_98]
          refine pk_le l i (fun z => absurd z (by omega)) (fun _ => ⟨vp_in_nI (by omega) (by omega), ?_⟩)
          rw [nI_clamp (show l < 2 ^ 31 by omega), nI_clamp (show i < 2 ^ 31 by omega), pk_un (show i ≠ l by omega), htr i (by omega)]
          refine wp_joins (by omega) (pf_lt ht6 4 i) (ht6 i) hf (fun f' hf' => ?_)
          rw [nI_1]
          exact hag2 _ ⟨f', rfl, fun j hj2 => by rw [hf' j hj2, pf_pre (by omega) (fun j hj3 => nz j (by omega))]⟩
        · rintro st again2 ⟨f, rfl, hf⟩
          rw [wbX7_bestPart_98]
          refine pk_le l l (fun _ => ⟨vp_in_nI (by omega) (by omega), ?_⟩) (fun z => absurd z (by omega))
          rw [nI_clamp (show l < 2 ^ 31 by omega), htr l (Nat.le_refl _), nI_1, hc, pk_us]
          refine wp_isPn (pn_pre (by omega) nz) (by omega) ht6 hc6 hf (fun hin => ⟨fun z => absurd z (by decide), fun _ => ?_⟩) (fun hnin => ⟨fun _ => ⟨vp_in_nI (by omega) (by omega), ?_⟩, fun z => absurd rfl z⟩)
          · -- a product of those ahead
            refine hag _ _ hlt2 ⟨fd, nI (2 ^ l), f, br, bh, bw, upd tr l (nI c), Or.inl ⟨l, apd t l c, rfl, hl, htr', fun i hi => by have := nz' i (by omega); omega, hle', fun i hi => hlt' i (by omega), hind', hS', hz', JRs_cong (fun v => ?_) hj, rfl⟩⟩
            constructor
            · rintro ⟨hv, ⟨j, j1, j2, j3⟩ | ⟨j2, j3⟩⟩
              · exact ⟨hv, Or.inl ⟨j, j1, fun i hi => by rw [j2 i hi, apd_n (by omega)], by rw [apd_n (by omega)]; exact j3⟩⟩
              · exact ⟨hv, Or.inr ⟨fun i hi => by rw [j2 i hi, apd_n (by omega)], by rw [apd_s]; omega⟩⟩
            · rintro ⟨hv, ⟨j, j1, j2, j3⟩ | ⟨j2, j3⟩⟩
              · exact ⟨hv, Or.inl ⟨j, j1, fun i hi => by rw [j2 i hi, apd_n (by omega)], by rw [apd_n (by omega)] at j3; exact j3⟩⟩
              · have j2' : ∀ i, i < l → v i = t i := fun i hi => by rw [j2 i hi, apd_n (by omega)]
                rw [apd_s] at j3
                refine ⟨hv, Or.inr ⟨j2', ?_⟩⟩
                rcases Nat.lt_or_ge (v l) c with q | q
                · omega
                · have e : v l = c := by omega
                  refine absurd ?_ (hv.1.2.2 l hl)
                  rw [e]; exact sp_cong (fun i hi => (j2' i hi).symm) hin
          · refine wp_joins (by omega) (pf_lt ht6 4 l) hc6 hf (fun f' hf' => ?_)
            have hf2 : ∀ j, j < 2 ^ (l + 1) → f' j = nI (pf (apd t l c) 4 (l + 1) j) := fun j hj2 => by
              rw [hf' j hj2, pf_pre (by omega) nz', apd_s, pf_cong (u := apd t l c) (v := t) (a := l) (fun i hi => apd_n (by omega)), pf_cong (u := apd t l c) (v := t) (a := l) (fun i hi => apd_n (by omega))]
            have hnin' : ¬ sp (apd t l c) 4 l (apd t l c l) := by rw [sp_apd (Nat.le_refl l), apd_s]; exact hnin
            rw [nI_1]
            refine pk_le k (l + 1) (fun zk => ?_) (fun zk => ?_)
            · -- a whole row of words
              have ek : l + 1 = k := by omega
              have hTW : TW k (apd t l c) := ⟨fun i hi => nz' i (by omega), fun i hi => hz' i (by omega), fun m hm2 => by
                by_cases e : m = l
                · subst e; exact hnin'
                · exact hind' m (by omega)⟩
              have hVT : VTs (2 ^ K) k (apd t l c) := ⟨hTW, fun i _ => hS' i, fun i hi => hlt' i (by omega)⟩
              rw [ek] at hf2 ⊢
              have hDD : ∀ v, DDs (2 ^ K) k (apd t l c) l v ↔ DDs (2 ^ K) k t l v ∨ v = apd t l c := fun v => by
                constructor
                · rintro ⟨hv, ⟨j, j1, j2, j3⟩ | ⟨j2, j3⟩⟩
                  · exact Or.inl ⟨hv, Or.inl ⟨j, j1, fun i hi => by rw [j2 i hi, apd_n (by omega)], by rw [apd_n (by omega)] at j3; exact j3⟩⟩
                  · rw [apd_s] at j3
                    rcases Nat.lt_or_ge (v l) c with q | q
                    · exact Or.inl ⟨hv, Or.inr ⟨fun i hi => by rw [j2 i hi, apd_n (by omega)], by omega⟩⟩
                    · refine Or.inr (funext (fun i => ?_))
                      rcases Nat.lt_trichotomy i l with e | e | e
                      · exact j2 i e
                      · subst e; rw [apd_s]; omega
                      · rw [hz' i e]; exact hv.1.2.1 i (by omega)
                · rintro (⟨hv, ⟨j, j1, j2, j3⟩ | ⟨j2, j3⟩⟩ | rfl)
                  · exact ⟨hv, Or.inl ⟨j, j1, fun i hi => by rw [j2 i hi, apd_n (by omega)], by rw [apd_n (by omega)]; exact j3⟩⟩
                  · exact ⟨hv, Or.inr ⟨fun i hi => by rw [j2 i hi, apd_n (by omega)], by rw [apd_s]; omega⟩⟩
                  · exact ⟨hVT, Or.inr ⟨fun _ _ => rfl, Nat.le_refl _⟩⟩
              have nx : ∀ fd' br' bh' bw', JRs (2 ^ K) k (fun v => DDs (2 ^ K) k t l v ∨ v = apd t l c) fd' br' bh' bw' → again (fd', nI l, nI (2 ^ k), f', br', bh', bw', upd tr l (nI c)) := fun fd' br' bh' bw' hj' =>
                hag _ _ hlt2 ⟨fd', nI (2 ^ k), f', br', bh', bw', upd tr l (nI c), Or.inl ⟨l, apd t l c, rfl, hl, htr', fun i hi => by have := nz' i (by omega); omega, hle', fun i hi => hlt' i (by omega), hind', hS', hz', JRs_cong (fun v => (hDD v).symm) hj', rfl⟩⟩
              have put : (∀ v, DDs (2 ^ K) k t l v → ¬ RBT (2 ^ K) k v (apd t l c)) → wjX7_bestPart_189 (nI k) (nI l) br bh bw tr again (nI (2 ^ k)) f' := fun hno => by
                unfold wjX7_bestPart_189
                rw [nI_clamp (show l < 2 ^ 31 by omega), htr l (Nat.le_refl _), nI_1, hc]
                exact wp_isBest hK hk hTW h6' hf2 (fun br' bh' bw' hHS hbw => nx 1 br' bh' bw' (Or.inr ⟨apd t l c, Or.inr rfl, rfl, fun v hv => hv.elim (hno v) (fun e => by rw [e]; exact RBT_irr), hHS, hbw⟩))
              rcases hj with ⟨q1, q2⟩ | ⟨u, q1, q2, q3, q4, q5⟩
              · subst q2
                exact ⟨fun _ => put (fun v hv => absurd hv (q1 v)), fun z => absurd rfl z⟩
              · subst q2
                refine ⟨fun z => absurd z (by decide), fun _ => ?_⟩
                have hub : ∀ i, u i < 2 ^ K := fun i => by
                  rcases Nat.lt_or_ge i k with hi | hi
                  · exact q1.1.2.1 i hi
                  · rw [q1.1.1.2.1 i hi]; exact hp0
                refine wp_better hK hk hTW q1.1.1 hS' hub hg hf2 q4 (fun hb' => ⟨fun z => absurd z (by decide), fun _ => put (fun v hv hr => q3 v hv (RBT_trans hr hb'))⟩) (fun hb' => ⟨fun _ => ?_, fun z => absurd rfl z⟩)
                exact nx 1 br bh bw (Or.inr ⟨u, Or.inl q1, rfl, fun v hv => hv.elim (q3 v) (fun e => by rw [e]; exact hb'), q4, q5⟩)
            · -- the next word
              have ep : nI (l + 1) - 1 = nI l := nI_pred l
              rw [ep, nI_clamp (show l + 1 < 2 ^ 31 by omega), nI_clamp (show l < 2 ^ 31 by omega), pk_us]
              have h2S : ∀ i, apd (apd t l c) (l + 1) c i < 2 ^ K := fun i => by
                by_cases e : i = l + 1
                · subst e; rw [apd_s]; omega
                · rw [apd_n e]; exact hS' i
              have hlt3 : mms (dms (2 ^ K) (l + 1) (apd (apd t l c) (l + 1) c)) < m := by
                rw [hm]
                refine mms_lt (dms_b hS _ _) (p := l) (by omega) (fun i hi => ?_) ?_
                · rw [dms_lo hi, dms_lo (by omega), apd_n (by omega), apd_n (by omega)]
                · rw [dms_at, dms_lo (by omega), apd_n (by omega), apd_s]; omega
              refine ⟨vp_in_nI (by omega) (by omega), vp_in_nI (by omega) (by omega), hag _ _ hlt3 ⟨fd, nI (2 ^ (l + 1)), f', br, bh, bw, upd (upd tr l (nI c)) (l + 1) (nI c), Or.inl ⟨l + 1, apd (apd t l c) (l + 1) c, rfl, by omega, fun i hi => ?_, fun i hi => ?_, fun i hi => ?_, fun i hi => ?_, fun m hm2 => ?_, h2S, fun i hi => ?_, JRs_cong (fun v => ?_) hj, rfl⟩⟩⟩
              · by_cases e : i = l + 1
                · subst e; rw [pk_us, apd_s]
                · rw [pk_un e, apd_n e]; exact htr' i (by omega)
              · rw [apd_n (by omega)]; have := nz' i (by omega); omega
              · rw [apd_n (by omega)]
                by_cases e : i + 1 = l + 1
                · have e2 : i = l := by omega
                  subst e2; rw [apd_s, apd_s]; exact Nat.le_refl _
                · rw [apd_n e]; exact hle' i (by omega)
              · rw [apd_n (show i ≠ l + 1 by omega), apd_n (show i + 1 ≠ l + 1 by omega)]; exact hlt' i (by omega)
              · rw [sp_apd (by omega), apd_n (by omega)]
                by_cases e : m = l
                · subst e; exact hnin'
                · exact hind' m (by omega)
              · rw [apd_n (by omega)]; exact hz' i (by omega)
              · constructor
                · rintro ⟨hv, ⟨j, j1, j2, j3⟩ | ⟨j2, j3⟩⟩
                  · exact ⟨hv, Or.inl ⟨j, by omega, fun i hi => by rw [j2 i hi, apd_n (by omega), apd_n (by omega)], by rw [apd_n (by omega), apd_n (by omega)]; exact j3⟩⟩
                  · exact ⟨hv, Or.inl ⟨l, by omega, fun i hi => by rw [j2 i hi, apd_n (by omega), apd_n (by omega)], by rw [apd_n (by omega), apd_s]; omega⟩⟩
                · rintro ⟨hv, ⟨j, j1, j2, j3⟩ | ⟨j2, j3⟩⟩
                  · by_cases e : j = l
                    · subst e
                      rw [apd_n (by omega), apd_s] at j3
                      exact ⟨hv, Or.inr ⟨fun i hi => by rw [j2 i hi, apd_n (by omega), apd_n (by omega)], by omega⟩⟩
                    · rw [apd_n (by omega), apd_n e] at j3
                      exact ⟨hv, Or.inl ⟨j, by omega, fun i hi => by rw [j2 i hi, apd_n (by omega), apd_n (by omega)], j3⟩⟩
                  · rw [apd_s] at j3
                    have e1 : v l = c := by rw [j2 l (by omega), apd_n (by omega), apd_s]
                    have e2 := hv.2.2 l (by omega)
                    omega
      · -- no more words at this place
        have hS' : 2 ^ K ≤ t l + 1 := by omega
        by_cases e : l = 0
        · subst e
          refine hag 0 _ ?_ ⟨fd, pr, prd, br, bh, bw, _, Or.inr ⟨rfl, JRs_cong (fun v => ⟨fun q => q.1, fun q => ⟨q, Or.inr ⟨fun i hi => absurd hi (Nat.not_lt_zero _), ?_⟩⟩⟩) hj⟩⟩
          · have e1 := htS 0
            rw [hm]; unfold mms; rw [dms_at]; omega
          · have := q.2.1 0 (by omega); omega
        · obtain ⟨l', rfl⟩ : ∃ l', l = l' + 1 := ⟨l - 1, by omega⟩
          rw [show nI (l' + 1) - 1 = nI l' from nI_pred l']
          have hlt2 : mms (dms (2 ^ K) l' (apd t (l' + 1) 0)) < m := by
            rw [hm]
            refine mms_lt (dms_b hS _ _) (p := l') (by omega) (fun i hi => ?_) ?_
            · rw [dms_lo hi, dms_lo (by omega), apd_n (by omega)]
            · rw [dms_at, dms_lo (by omega), apd_n (by omega)]; omega
          refine hag _ _ hlt2 ⟨fd, pr, prd, br, bh, bw, _, Or.inl ⟨l', apd t (l' + 1) 0, rfl, by omega, fun i hi => ?_, fun i hi => ?_, fun i hi => ?_, fun i hi => ?_, fun m hm2 => ?_, fun i => ?_, fun i hi => ?_, JRs_cong (fun v => ?_) hj, rfl⟩⟩
          · rw [pk_un (by omega), apd_n (by omega)]; exact htr i (by omega)
          · rw [apd_n (by omega)]; exact h1 i (by omega)
          · rw [apd_n (by omega), apd_n (by omega)]; exact hle i (by omega)
          · rw [apd_n (by omega), apd_n (by omega)]; exact hinc i (by omega)
          · rw [sp_apd (by omega), apd_n (by omega)]; exact hind m (by omega)
          · by_cases e2 : i = l' + 1
            · subst e2; rw [apd_s]; exact hp0
            · rw [apd_n e2]; exact htS i
          · by_cases e2 : i = l' + 1
            · subst e2; rw [apd_s]
            · rw [apd_n e2]; exact hz i (by omega)
          · constructor
            · rintro ⟨hv, ⟨j, j1, j2, j3⟩ | ⟨j2, j3⟩⟩
              · by_cases e2 : j = l'
                · subst e2
                  exact ⟨hv, Or.inr ⟨fun i hi => by rw [j2 i hi, apd_n (by omega)], by rw [apd_n (by omega)]; omega⟩⟩
                · exact ⟨hv, Or.inl ⟨j, by omega, fun i hi => by rw [j2 i hi, apd_n (by omega)], by rw [apd_n (by omega)]; exact j3⟩⟩
              · exact ⟨hv, Or.inr ⟨fun i hi => by rw [j2 i (by omega), apd_n (by omega)], by rw [apd_n (by omega), j2 l' (by omega)]; exact Nat.le_refl _⟩⟩
            · rintro ⟨hv, ⟨j, j1, j2, j3⟩ | ⟨j2, j3⟩⟩
              · rw [apd_n (by omega)] at j3
                exact ⟨hv, Or.inl ⟨j, by omega, fun i hi => by rw [j2 i hi, apd_n (by omega)], j3⟩⟩
              · rw [apd_n (by omega)] at j3
                have j2' : ∀ i, i < l' → v i = t i := fun i hi => by rw [j2 i hi, apd_n (by omega)]
                rcases Nat.lt_or_ge (v l') (t l') with q | q
                · exact ⟨hv, Or.inl ⟨l', by omega, j2', q⟩⟩
                · refine ⟨hv, Or.inr ⟨fun i hi => ?_, ?_⟩⟩
                  · by_cases e2 : i = l'
                    · subst e2; omega
                    · exact j2' i (by omega)
                  · have := hv.2.1 (l' + 1) hl; omega
    · rw [wbX7_bestPart_41]
      exact ⟨fun _ => h _ _ _ _ _ _ _ hj, fun z => absurd (by decide : (-1 : Int32) < 0) z⟩
