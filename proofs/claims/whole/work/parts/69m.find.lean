/-! the class's search: how many PLANS, the search, the counts -/
theorem wys_end (w : Nat → Nat) (r : Nat) : ∀ d, wys w r (r + 1 + d) = wys w r (r + 1)
  | 0 => rfl
  | d + 1 => by rw [show r + 1 + (d + 1) = (r + 1 + d) + 1 by omega, wys, if_neg (by omega), wys_end w r d]; rfl
theorem wys_le {w : Nat → Nat} (h : ∀ q, w q ≤ 20001) (r : Nat) : ∀ k, wys w r k ≤ k * 20001
  | 0 => Nat.le_refl _
  | k + 1 => by
    have a := wys_le h r k
    have b := h (r - k)
    rw [wys, Nat.succ_mul]
    by_cases c : k ≤ r
    · rw [if_pos c]; exact Nat.add_le_add a b
    · rw [if_neg c]; exact Nat.le_trans a (Nat.le_add_right _ _)
theorem wy_le : ∀ s r, wy s r ≤ 20001
  | 0, r => by rw [wy]; split <;> omega
  | s + 1, r => by rw [wy]; omega
theorem wy_mono (s r : Nat) : wy s r ≤ wy (s + 1) r := by
  have h : ∀ k, 1 ≤ k → wy s r ≤ wys (wy s) r k := by
    intro k
    induction k with
    | zero => intro h; omega
    | succ k ih =>
      intro _
      rw [wys]
      by_cases e : k = 0
      · subst e; rw [if_pos (Nat.zero_le _), Nat.sub_zero]; omega
      · have := ih (by omega); omega
  rw [wy]
  have := h 10 (by omega)
  have := wy_le s r
  omega
theorem wy_monoS {a b : Nat} (h : a ≤ b) (r : Nat) : wy a r ≤ wy b r := by
  induction b with
  | zero => have : a = 0 := by omega
            subst this; exact Nat.le_refl _
  | succ b ih =>
    by_cases e : a = b + 1
    · subst e; exact Nat.le_refl _
    · exact Nat.le_trans (ih (by omega)) (wy_mono b r)
theorem wp_countX {S N : Nat} (hS : S ≤ 64) (hN : N ≤ 40) {ways : Nat → Int32} {k : Int32 → (Nat → Int32) → Prop} (h : ∀ w wa, (w = wy S N ∨ (20000 < w ∧ 20000 < wy S N)) → w ≤ 20001 → k (nI w) wa) : wpX5_countPlans (nI N) (nI S) ways k := by
  unfold wpX5_countPlans
  refine wloop_n (fun s st => ∃ wa, st = (nI s, wa) ∧ ∀ r, r ≤ N → wa r = nI (wy s r)) S ⟨_, rfl, fun r hr => ?_⟩ ?_ ?_
  · rw [wy]
    by_cases e : r = 0
    · subst e; rw [pk_us, if_pos rfl]; rfl
    · rw [pk_un e, if_neg e]; rfl
  · rintro s st again hs ⟨wa, rfl, hwa⟩ hag
    have hw := wy_le s N
    rw [wbX5_countPlans_17, nI_clamp (by omega), hwa N (Nat.le_refl _)]
    refine pk_le S s (fun z => absurd z (by omega)) (fun _ => ⟨vp_in_nI (by omega) (by omega), pk_lt 20000 (wy s N) (fun z => ⟨vp_in_nI (by omega) (by omega), h _ _ (Or.inr ⟨z, ?_⟩) hw⟩) (fun z => ?_)⟩)
    · have := wy_monoS (show s ≤ S by omega) N; omega
    · refine wloop_n (fun j st => ∃ wa, st = (nI (N - j), wa) ∧ ∀ r, r ≤ N → wa r = nI (if N - j < r then wy (s + 1) r else wy s r)) N ⟨wa, rfl, fun r hr => by rw [if_neg (by omega)]; exact hwa r hr⟩ ?_ ?_
      · rintro j st again2 hj ⟨wa, rfl, hwa⟩ hag2
        generalize hn : N - j = n at *
        rw [wbX5_countPlans_45]
        refine pk_le n 0 (fun z => absurd z (by omega)) (fun _ => ?_)
        have J : ∀ c, c = wys (wy s) n 10 → wjX5_countPlans_85 (nI n) wa again2 (nI c) := fun c hc => by
          unfold wjX5_countPlans_85
          have hb := wys_le (wy_le s) n 10
          have e1 : (if (20001 : Int32) < nI c then (20001 : Int32) else nI c) = nI (wy (s + 1) n) := by
            rw [wy, ← hc]
            by_cases e : 20001 < c
            · rw [if_pos (show (20001 : Int32) < nI c from (show nI 20001 < nI c from nI_lt e (by omega))), Nat.min_eq_left (by omega)]; rfl
            · rw [if_neg (show ¬ (20001 : Int32) < nI c from (show ¬ nI 20001 < nI c from nI_nlt (by omega) (by omega))), Nat.min_eq_right (by omega)]
          have e2 : nI n + (-1) = nI (N - (j + 1)) := by rw [show n = (N - (j + 1)) + 1 by omega]; exact pk_m1 _
          rw [e1, e2, nI_clamp (by omega)]
          refine ⟨vp_in_nI (by omega) (by omega), hag2 _ ⟨_, rfl, fun r hr => ?_⟩⟩
          by_cases e : r = n
          · subst e; rw [pk_us, if_pos (by omega)]
          · rw [pk_un e, hwa r hr]
            by_cases c2 : n < r
            · rw [if_pos c2, if_pos (by omega)]
            · rw [if_neg c2, if_neg (by omega)]
        have hend : wys (wy s) n (min 10 (n + 1)) = wys (wy s) n 10 := by
          rcases Nat.lt_or_ge n 9 with h | h
          · rw [Nat.min_eq_right (by omega), show 10 = n + 1 + (9 - n) by omega, wys_end]
          · rw [Nat.min_eq_left (by omega)]
        refine wloop_n (fun i st => st = (nI (wys (wy s) n i), nI i)) (min 10 (n + 1)) rfl ?_ ?_
        · rintro i st again3 hi rfl hag3
          rw [wbX5_countPlans_54, pk_sub (show i ≤ n by omega), nI_clamp (by omega), hwa (n - i) (by omega), if_neg (by omega), nI_add, nI_1]
          refine pk_lt 9 i (fun z => absurd z (by omega)) (fun _ => pk_lt n i (fun z => absurd z (by omega)) (fun _ => ⟨vp_in_nI (by omega) (by omega), hag3 _ ?_⟩))
          rw [wys, if_pos (by omega)]
        · rintro st again3 rfl
          rw [wbX5_countPlans_54]
          refine pk_lt 9 (min 10 (n + 1)) (fun _ => J _ hend) (fun z => pk_lt n (min 10 (n + 1)) (fun _ => J _ hend) (fun z2 => absurd z2 (by omega)))
      · rintro st again2 ⟨wa, rfl, hwa⟩
        rw [wbX5_countPlans_45, Nat.sub_self]
        refine pk_le 0 0 (fun _ => ?_) (fun z => absurd z (by omega))
        rw [nI_1]
        refine hag _ ⟨wa, rfl, fun r hr => ?_⟩
        rw [hwa r hr, Nat.sub_self]
        by_cases e : 0 < r
        · rw [if_pos e]
        · rw [if_neg e, show r = 0 by omega]
          have h0 : ∀ s, wy s 0 = 1 := by
            intro s
            induction s with
            | zero => rfl
            | succ s ih =>
              rw [wy]
              have : wys (wy s) 0 10 = 1 := by rw [show 10 = 0 + 1 + 9 from rfl, wys_end]; show 0 + (if 0 ≤ 0 then wy s (0 - 0) else 0) = 1; rw [if_pos (Nat.le_refl _), ih]
              rw [this]; rfl
          rw [h0, h0]
  · rintro st again ⟨wa, rfl, hwa⟩
    rw [wbX5_countPlans_17, nI_clamp (by omega), hwa N (Nat.le_refl _)]
    exact pk_le S S (fun _ => ⟨vp_in_nI (by omega) (by omega), h _ _ (Or.inl rfl) (wy_le _ _)⟩) (fun z => absurd z (by omega))
theorem wp_note {K n : Nat} (hK : K ≤ 6) (hn : n ≤ 5) {te : Nat → Nat} (hte : ∀ i, i < n → te i < 64) {fc tc : Int32} {terms : Nat → Int32} (hfc : fc = nI K) (htc : tc = nI n) (ht : ∀ i, i < n → terms i = nI (te i)) {at1 : Nat → Int32} {atc af tr st : Int32} {signs : Nat → Int32} {a2 : Int32} {k : (Nat → Int32) → Int32 → Int32 → Int32 → Int32 → (Nat → Int32) → Prop} (h : ∀ sg', (∀ s, s < 2 ^ K → sg' s = nI (sgs te s n)) → k terms tc fc a2 (nI (2 ^ K)) sg') : wpX5_noteAsked at1 atc af tr st signs fc tc terms a2 k := by
  have h64 := p64 hK
  unfold wpX5_noteAsked
  refine wp_settX (by omega) hfc ?_
  refine wloop_n (fun s st => ∃ sg', st = (nI s, sg') ∧ ∀ u, u < s → sg' u = nI (sgs te u n)) (2 ^ K) ⟨signs, rfl, fun u hu => absurd hu (Nat.not_lt_zero _)⟩ ?_ ?_
  · rintro s st again hs ⟨sg', rfl, hsg⟩ hag
    rw [wbX5_noteAsked_45]
    refine pk_le (2 ^ K) s (fun z => absurd z (by omega)) (fun _ => ?_)
    refine wp_signs hn hte (by omega) htc ht ⟨vp_in_nI (by omega) (by omega), ?_⟩
    rw [nI_clamp (by omega), nI_1]
    refine hag _ ⟨_, rfl, fun u hu => ?_⟩
    by_cases e : u = s
    · subst e; rw [pk_us]
    · rw [pk_un e]; exact hsg u (by omega)
  · rintro st again ⟨sg', rfl, hsg⟩
    rw [wbX5_noteAsked_45]
    exact pk_le (2 ^ K) (2 ^ K) (fun _ => h sg' hsg) (fun z => absurd z (by omega))
def nsum (f : Nat → Nat) : Nat → Nat
  | 0 => 0
  | n + 1 => nsum f n + f n
theorem wp_cb {S : Nat} (hS : S ≤ 64) {tl : Nat → Int32} {tn : Nat → Nat} (hb : ∀ a, a ≤ S → tn a ≤ 20000) (ht : ∀ a, a ≤ S → tl a = nI (tn a)) {k : Int32 → Prop} (h : k (nI (nsum (fun i => tn (i + 1) * S / (i + 1)) S))) : wpX5_countBests (nI S) tl k := by
  unfold wpX5_countBests
  refine wloop_n (fun i st => st = (nI (nsum (fun i => tn (i + 1) * S / (i + 1)) i), nI (i + 1))) S rfl ?_ ?_
  · rintro i st again hi rfl hag
    have h1 := hb (i + 1) (by omega)
    have h2 : tn (i + 1) * S ≤ 20000 * 64 := Nat.mul_le_mul h1 hS
    rw [wbX5_countBests_4, nI_clamp (by omega), ht (i + 1) (by omega), pk_mul, pk_div (by omega) (by omega) (by omega), nI_add, nI_1]
    exact pk_lt S (i + 1) (fun z => absurd z (by omega)) (fun _ => ⟨vp_in_nI (by omega) (by omega), nI_ne0 (by omega) (by omega), hag _ rfl⟩)
  · rintro st again rfl
    rw [wbX5_countBests_4]
    exact pk_lt S (S + 1) (fun _ => h) (fun z => absurd z (by omega))
theorem nsum_sm (f : Nat → Nat) : ∀ n, (nsum f n : Int) = sm n (fun i => (f i : Int))
  | 0 => rfl
  | n + 1 => by rw [nsum, sm, ← nsum_sm f n]; omega
/-- out of the class's counts: the first best PLAN and how many are best -/
theorem fin_cb {K n N : Nat} (hK : K ≤ 6) (hn1 : 1 ≤ n) (hn : n ≤ 5) (hN : N ≤ 40) {te : Nat → Nat} (hte : ∀ i, i < n → te i < 64) (hw1 : 0 < wy (2 ^ K) N) (hw2 : wy (2 ^ K) N ≤ 20000) {gr : Int64} {tl fi : Nat → Int32} (hj : JX (2 ^ K) (WW K n te) (RV (2 ^ K) N) gr tl fi) {k : Int32 → Prop} (h : ∀ bc, PR (2 ^ K) N (WW K n te) bc fi → k bc) : wpX5_countBests (nI (2 ^ K)) tl k := by
  have h64 := p64 hK
  have hS := Nat.two_pow_pos K
  have hflip : ∀ u c, c < 2 ^ K → WW K n te (flp u c) = WW K n te u := fun u c hc => WW_flip hte u hc
  obtain ⟨v0, hv0⟩ := vpl_ex hw1
  rcases hj with ⟨h1, _, _⟩ | ⟨u, u1, u2, u3, u4, u5, u6⟩
  · exfalso
    obtain ⟨c, hc, hm⟩ := mxs_ex v0 hS
    exact h1 _ ⟨vpl_flp hv0 hc, (mxs_flp hc).2 (by rw [Nat.zero_xor]; exact hm)⟩
  · have hBP : BP (2 ^ K) N (WW K n te) u := BP_of hflip u1 u3 u4
    -- the class of PLANS with as many greatest places
    have hB : ∀ (a : Nat) (v : Nat → Nat) (c : Nat), c < 2 ^ K → ((vpl (2 ^ K) N (flp v c) ∧ WW K n te (flp v c) = WW K n te u ∧ Mxn (2 ^ K) (flp v c) = (a : Int)) ↔ (vpl (2 ^ K) N v ∧ WW K n te v = WW K n te u ∧ Mxn (2 ^ K) v = (a : Int))) := fun a v c hc => by
      rw [hflip v c hc, Mxn_flp hc]
      exact ⟨fun z => ⟨by have := vpl_flp z.1 hc; rwa [flp_flp] at this, z.2⟩, fun z => ⟨vpl_flp z.1 hc, z.2⟩⟩
    have orb : ∀ a : Nat, ((2 ^ K : Nat) : Int) * cnt (10 ^ 2 ^ K) (fun x => RV (2 ^ K) N (dgp (2 ^ K) x) ∧ WW K n te (dgp (2 ^ K) x) = WW K n te u ∧ cn (dgp (2 ^ K) x) (dgp (2 ^ K) x 0) (2 ^ K) = a) = (a : Int) * cnt (10 ^ 2 ^ K) (fun x => vpl (2 ^ K) N (dgp (2 ^ K) x) ∧ WW K n te (dgp (2 ^ K) x) = WW K n te u ∧ Mxn (2 ^ K) (dgp (2 ^ K) x) = (a : Int)) := fun a => by
      rw [← orbit (B := fun v => vpl (2 ^ K) N v ∧ WW K n te v = WW K n te u ∧ Mxn (2 ^ K) v = (a : Int)) (hB a) a (fun v hv => hv.2.2)]
      congr 1
      refine cnt_cong (fun x _ => ⟨fun z => ⟨⟨z.1.1, z.2.1, ?_⟩, z.1.2⟩, fun z => ⟨⟨z.1.1, z.2⟩, z.1.2.1, ?_⟩⟩)
      · rw [alk_Mx z.1.2 hS, z.2.2]
      · have := z.1.2.2
        rw [alk_Mx z.2 hS] at this
        omega
    have hcb : ∀ a : Nat, 0 ≤ cnt (10 ^ 2 ^ K) (fun x => RV (2 ^ K) N (dgp (2 ^ K) x) ∧ WW K n te (dgp (2 ^ K) x) = WW K n te u ∧ cn (dgp (2 ^ K) x) (dgp (2 ^ K) x 0) (2 ^ K) = a) ∧ cnt (10 ^ 2 ^ K) (fun x => RV (2 ^ K) N (dgp (2 ^ K) x) ∧ WW K n te (dgp (2 ^ K) x) = WW K n te u ∧ cn (dgp (2 ^ K) x) (dgp (2 ^ K) x 0) (2 ^ K) = a) ≤ 20000 := fun a => ⟨cnt_nonneg _ _, Int.le_trans (cnt_mono (Q := fun x => vpl (2 ^ K) N (dgp (2 ^ K) x) ∧ True) (fun x _ z => ⟨z.1.1, trivial⟩)) (vpl_few hw2 _)⟩
    have htot := split_Mx (S := 2 ^ K) hS (X := 10 ^ 2 ^ K) (B := fun x => vpl (2 ^ K) N (dgp (2 ^ K) x) ∧ WW K n te (dgp (2 ^ K) x) = WW K n te u) (f := fun x => dgp (2 ^ K) x)
    have hle := vpl_few (S := 2 ^ K) (N := N) hw2 (fun x => WW K n te (dgp (2 ^ K) x) = WW K n te u)
    have hge : 1 ≤ cnt (10 ^ 2 ^ K) (fun x => vpl (2 ^ K) N (dgp (2 ^ K) x) ∧ WW K n te (dgp (2 ^ K) x) = WW K n te u) := cnt_pos (enc_lt hBP.1.1 _) (by rw [dgp_enc hBP.1.1 hBP.1.2.1]; exact ⟨hBP.1, rfl⟩)
    refine wp_cb h64 (tn := fun a => (cnt (10 ^ 2 ^ K) (fun x => RV (2 ^ K) N (dgp (2 ^ K) x) ∧ WW K n te (dgp (2 ^ K) x) = WW K n te u ∧ cn (dgp (2 ^ K) x) (dgp (2 ^ K) x 0) (2 ^ K) = a)).toNat) (fun a _ => by have := hcb a; omega) (fun a ha => ?_) ?_
    · rw [u6 a ha, nI_iI]
      congr 1
      have := hcb a; omega
    · have hsum : (nsum (fun i => (cnt (10 ^ 2 ^ K) (fun x => RV (2 ^ K) N (dgp (2 ^ K) x) ∧ WW K n te (dgp (2 ^ K) x) = WW K n te u ∧ cn (dgp (2 ^ K) x) (dgp (2 ^ K) x 0) (2 ^ K) = i + 1)).toNat * 2 ^ K / (i + 1)) (2 ^ K) : Int) = cnt (10 ^ 2 ^ K) (fun x => vpl (2 ^ K) N (dgp (2 ^ K) x) ∧ WW K n te (dgp (2 ^ K) x) = WW K n te u) := by
        rw [nsum_sm, htot]
        refine sm_congr (fun i hi => ?_)
        have o := orb (i + 1)
        have c1 := hcb (i + 1)
        have e3 : cnt (10 ^ 2 ^ K) (fun x => (vpl (2 ^ K) N (dgp (2 ^ K) x) ∧ WW K n te (dgp (2 ^ K) x) = WW K n te u) ∧ Mxn (2 ^ K) (dgp (2 ^ K) x) = ((i + 1 : Nat) : Int)) = cnt (10 ^ 2 ^ K) (fun x => vpl (2 ^ K) N (dgp (2 ^ K) x) ∧ WW K n te (dgp (2 ^ K) x) = WW K n te u ∧ Mxn (2 ^ K) (dgp (2 ^ K) x) = ((i + 1 : Nat) : Int)) := cnt_cong (fun x _ => and_assoc)
        rw [e3]
        have c2 : 0 ≤ cnt (10 ^ 2 ^ K) (fun x => vpl (2 ^ K) N (dgp (2 ^ K) x) ∧ WW K n te (dgp (2 ^ K) x) = WW K n te u ∧ Mxn (2 ^ K) (dgp (2 ^ K) x) = ((i + 1 : Nat) : Int)) := cnt_nonneg _ _
        generalize cnt (10 ^ 2 ^ K) (fun x => vpl (2 ^ K) N (dgp (2 ^ K) x) ∧ WW K n te (dgp (2 ^ K) x) = WW K n te u ∧ Mxn (2 ^ K) (dgp (2 ^ K) x) = ((i + 1 : Nat) : Int)) = q at *
        generalize cnt (10 ^ 2 ^ K) (fun x => RV (2 ^ K) N (dgp (2 ^ K) x) ∧ WW K n te (dgp (2 ^ K) x) = WW K n te u ∧ cn (dgp (2 ^ K) x) (dgp (2 ^ K) x 0) (2 ^ K) = i + 1) = p at *
        obtain ⟨p', rfl⟩ : ∃ p' : Nat, p = p' := ⟨p.toNat, by omega⟩
        obtain ⟨q', rfl⟩ : ∃ q' : Nat, q = q' := ⟨q.toNat, by omega⟩
        have o2 : 2 ^ K * p' = (i + 1) * q' := by exact_mod_cast o
        rw [Int.toNat_natCast, Nat.mul_comm p', o2, Nat.mul_div_cancel_left _ (Nat.succ_pos i)]
      refine h _ ⟨fun z => by omega, fun z => by omega, fun _ _ => ⟨u, hBP, ?_, hge, hle, u5⟩⟩
      rw [nI_iI, hsum]
