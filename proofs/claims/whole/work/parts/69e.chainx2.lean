/-! the class's CHAINS: weighing, reading, finding -/
theorem nar_by : ∀ v, v < 128 → ((nI v).toInt8.toInt32).toInt8.toInt32 = nI v := by decide +kernel
theorem nar_b {v : Nat} (h : v < 128) : vp_nar .byte ((nI v).toInt8.toInt32) = nI v := by rw [vp_nar_byte]; exact nar_by v h
theorem lsf_dcrF {ti l : Nat → Nat} {q : Nat} (hq : q < pcn ti 64) : lsf ti (dcr l q) = dcr (lsf ti l) (plcf ti 64 q) := funext (lsf_dcr hq)
theorem lsf_hi {ti l : Nat → Nat} {s : Nat} (h : 64 ≤ s) : lsf ti l s = 0 := by unfold lsf; rw [if_neg (by omega)]
theorem FV_dcr {ti l : Nat → Nat} {m q : Nat} (hm : tot l (pcn ti 64) = ((m + 1 : Nat) : Int)) (hq : q < pcn ti 64) (h0 : 0 < l q) : FV ti (dcr l q) q = fcs m (dcr (lsf ti l) (plcf ti 64 q)) (plcf ti 64 q) := by
  unfold FV
  rw [tot_dcr hq h0, hm, lsf_dcrF hq, show (((m + 1 : Nat) : Int) - 1).toNat = m by omega]
/-- one step over the places -/
theorem step_places {ti l : Nat → Nat} {m : Nat} (hm12 : m < 13) (hm : tot l (pcn ti 64) = ((m + 1 : Nat) : Int)) {gp : Nat → Nat} (hg : ∀ s, gp s ≤ 6 ∨ 64 ≤ s) :
    (∀ q, q < pcn ti 64 → opn l q = true → gp (plcf ti 64 q) + FV ti (dcr l q) q < 10000) ∧ 0 < pcn l (pcn ti 64) ∧
    cbs (m + 1) (lsf ti l) gp = mnl (opn l) (fun q => gp (plcf ti 64 q) + FV ti (dcr l q) q) (pcn ti 64) ∧
    aml (opn (lsf ti l)) (fun s => gp s + fcs m (dcr (lsf ti l) s) s) 64 = plcf ti 64 (aml (opn l) (fun q => gp (plcf ti 64 q) + FV ti (dcr l q) q) (pcn ti 64)) := by
  have ht : tot (lsf ti l) 64 = ((m + 1 : Nat) : Int) := by rw [tot_places 64 (Nat.le_refl _)]; exact hm
  have hlt := stp_lt hm12 ht (fun s hs => lsf_hi hs) hg
  obtain ⟨q0, hq0, h00⟩ := tot_pos (l := l) (n := pcn ti 64) (by omega)
  have hc : ∀ q, q < pcn ti 64 → opn l q = true → gp (plcf ti 64 q) + fcs m (dcr (lsf ti l) (plcf ti 64 q)) (plcf ti 64 q) = gp (plcf ti 64 q) + FV ti (dcr l q) q := fun q hq ho => by rw [FV_dcr hm hq (opn_0 ho)]
  obtain ⟨e1, e2⟩ := mnl_places (ti := ti) (l := l) (f := fun s => gp s + fcs m (dcr (lsf ti l) s) s) (fun s _ ho => hlt s ho) ⟨q0, hq0, opn_t h00⟩
  obtain ⟨e3, e4⟩ := mnl_cong (p := opn l) (q := opn l) (f := fun q => gp (plcf ti 64 q) + fcs m (dcr (lsf ti l) (plcf ti 64 q)) (plcf ti 64 q)) (g := fun q => gp (plcf ti 64 q) + FV ti (dcr l q) q) (n := pcn ti 64) (fun _ _ => rfl) hc
  refine ⟨fun q hq ho => ?_, ?_, ?_, ?_⟩
  · rw [← hc q hq ho]
    exact hlt _ (opn_t (by rw [lsf_pl hq]; exact opn_0 ho))
  · have := pcn_mono (ti := l) (show q0 + 1 ≤ pcn ti 64 by omega)
    rw [pcn_t h00] at this; omega
  · rw [cbs, e1, e3]
  · rw [e2, e4]
/-- and below what the search begins with -/
theorem step_72 {ti l : Nat → Nat} {m : Nat} (hm : tot l (pcn ti 64) = ((m + 1 : Nat) : Int)) {gp : Nat → Nat} (hg : ∀ s, gp s + 6 * m < 72 ∨ 64 ≤ s) : ∀ q, q < pcn ti 64 → opn l q = true → gp (plcf ti 64 q) + FV ti (dcr l q) q < 72 := fun q hq ho => by
  have ht : tot (lsf ti l) 64 = ((m + 1 : Nat) : Int) := by rw [tot_places 64 (Nat.le_refl _)]; exact hm
  have hs := (plcf_2 hq).1
  have h1 := fcs_le m (dcr (lsf ti l) (plcf ti 64 q)) (plcf ti 64 q) (by rw [tot_dcr hs (by rw [lsf_pl hq]; exact opn_0 ho)]; omega) hs
  have h2 := hg (plcf ti 64 q)
  rw [FV_dcr hm hq (opn_0 ho)]
  omega
theorem gp_pl {a : Nat} (ha : a < 64) : ∀ s, pc (a ^^^ s) ≤ 6 ∨ 64 ≤ s := fun s => by
  rcases Nat.lt_or_ge s 64 with h | h
  · exact Or.inl (pc_le _ (xor64 ha h))
  · exact Or.inr h
theorem FV_step {ti l : Nat → Nat} {m at_ : Nat} (hm12 : m < 13) (hm : tot l (pcn ti 64) = ((m + 1 : Nat) : Int)) (hat : at_ < pcn ti 64) : FV ti l at_ = mnl (opn l) (fun q => pc (plcf ti 64 at_ ^^^ plcf ti 64 q) + FV ti (dcr l q) q) (pcn ti 64) ∧ FV ti l at_ ≤ 6 * (m + 1) := by
  have h := (step_places (gp := fun s => pc (plcf ti 64 at_ ^^^ s)) hm12 hm (gp_pl (plcf_2 hat).1)).2.2.1
  have e : FV ti l at_ = fcs (m + 1) (lsf ti l) (plcf ti 64 at_) := by unfold FV; rw [hm]; rfl
  refine ⟨by rw [e, ← h]; rfl, ?_⟩
  rw [e]
  exact fcs_le _ _ _ (by rw [tot_places 64 (Nat.le_refl _)]; exact hm) (plcf_2 hat).1
theorem FV_zero {ti l : Nat → Nat} {at_ : Nat} (h : tot l (pcn ti 64) = 0) : FV ti l at_ = 0 := by unfold FV; rw [h]; rfl
theorem FV_cong {ti l l' : Nat → Nat} (h : ∀ q, q < pcn ti 64 → l q = l' q) (at_ : Nat) : FV ti l at_ = FV ti l' at_ := by
  unfold FV
  rw [tot_congr h]
  refine fcs_cong _ _ (fun s _ => ?_)
  unfold lsf
  by_cases c : s < 64 ∧ 0 < ti s
  · rw [if_pos c, if_pos c, h _ (pcn_lt c.1 c.2)]
  · rw [if_neg c, if_neg c]
theorem pcn_0 {l : Nat → Nat} : ∀ {n : Nat}, (∀ q, q < n → l q = 0) → pcn l n = 0
  | 0, _ => rfl
  | n + 1, h => by rw [pcn_f (h n (by omega)), pcn_0 (fun q hq => h q (by omega))]
theorem tot_le {f g : Nat → Nat} : ∀ {n : Nat}, (∀ q, q < n → f q ≤ g q) → tot f n ≤ tot g n
  | 0, _ => Int.le_refl _
  | n + 1, h => by
    have ih := tot_le (n := n) (fun q hq => h q (by omega))
    have := h n (by omega)
    have e1 : tot f (n + 1) = tot f n + (f n : Int) := rfl
    have e2 : tot g (n + 1) = tot g n + (g n : Int) := rfl
    omega
theorem wp_countOn {ti l : Nat → Nat} {M : Nat} (hC : CT ti M) (hl : ∀ q, q < pcn ti 64 → l q ≤ stk ti q) {stock left : Nat → Int32} (hs : ∀ q, q < pcn ti 64 → stock q = nI (stk ti q)) (hle : ∀ q, q < pcn ti 64 → left q = nI (l q)) {k : (Nat → Int32) → Prop} (h1 : ∀ l' left', (∀ q, q < pcn ti 64 → l' q ≤ stk ti q) → (∀ q, q < pcn ti 64 → left' q = nI (l' q)) → cod (stk ti) l' (pcn ti 64) = cod (stk ti) l (pcn ti 64) + 1 → k left') (h2 : cod (stk ti) l (pcn ti 64) + 1 = prd (stk ti) (pcn ti 64) → ∀ left', k left') : wpX0_countOn stock (nI (pcn ti 64)) left k := by
  have hN := CT_N hC
  have hM := hC.2.2.2
  unfold wpX0_countOn
  refine wloop_n (fun p st => ∃ f, st = (nI p, f) ∧ (∀ q, q < p → l q = stk ti q) ∧ ∀ q, q < pcn ti 64 → f q = nI (if q < p then 0 else l q)) (pcn ti 64) ⟨left, rfl, fun q hq => absurd hq (Nat.not_lt_zero _), fun q hq => by rw [if_neg (Nat.not_lt_zero _)]; exact hle q hq⟩ ?_ ?_
  · rintro p st again hp ⟨f, rfl, hm, hf⟩ hag
    have hl9 : l p ≤ 9 := Nat.le_trans (hl p hp) (hC.1 _)
    have hs9 : stk ti p ≤ 9 := hC.1 _
    rw [wbX0_countOn_2]
    refine pk_le (pcn ti 64) p (fun z => absurd z (by omega)) (fun _ => ⟨vp_in_nI (by omega) (by omega), vp_in_nI (by omega) (by omega), ?_⟩)
    rw [nI_clamp (by omega), hs p hp, hf p hp, if_neg (Nat.lt_irrefl p), nI_1, nI_1]
    refine pk_le (stk ti p) (l p) (fun z => ⟨vp_in_nI (by omega) (by omega), hag _ ⟨_, rfl, fun q hq => ?_, fun q hq => ?_⟩⟩) (fun z => ⟨vp_in_nI (by omega) (by omega), vp_in_nI (by omega) (by omega), ?_⟩)
    · by_cases e : q = p
      · subst e; have := hl q hp; omega
      · exact hm q (by omega)
    · by_cases e : q = p
      · subst e; rw [pk_us, if_pos (by omega)]; rfl
      · rw [pk_un e, hf q hq]
        by_cases c : q < p
        · rw [if_pos c, if_pos (by omega)]
        · rw [if_neg c, if_neg (by omega)]
    · refine h1 (fun q => if q < p then 0 else if q = p then l q + 1 else l q) _ (fun q hq => ?_) (fun q hq => ?_) (cod_next hp hm)
      · by_cases c : q < p
        · rw [if_pos c]; omega
        · rw [if_neg c]
          by_cases e : q = p
          · subst e; rw [if_pos rfl]; omega
          · rw [if_neg e]; exact hl q hq
      · by_cases e : q = p
        · subst e; rw [pk_us, if_neg (Nat.lt_irrefl q), if_pos rfl]
        · rw [pk_un e, hf q hq, if_neg e]
  · rintro st again ⟨f, rfl, hm, hf⟩
    rw [wbX0_countOn_2]
    exact pk_le (pcn ti 64) (pcn ti 64) (fun _ => h2 (cod_full hm) f) (fun z => absurd z (by omega))
theorem tot_M {ti l : Nat → Nat} {M : Nat} (hC : CT ti M) (hl : ∀ q, q < pcn ti 64 → l q ≤ stk ti q) : ∃ m, m ≤ M ∧ tot l (pcn ti 64) = (m : Int) := by
  have h1 := tot_le hl
  rw [CT_stk hC] at h1
  have h2 := tot_nonneg l (pcn ti 64)
  exact ⟨(tot l (pcn ti 64)).toNat, by omega, by omega⟩
theorem tot_less {ti l : Nat → Nat} {M a : Nat} (hC : CT ti M) (hl : ∀ q, q < pcn ti 64 → l q ≤ stk ti q) (ha : a < pcn ti 64) (h : l a < stk ti a) : tot l (pcn ti 64) + 1 ≤ (M : Int) := by
  have h1 := tot_le (f := l) (g := dcr (stk ti) a) (n := pcn ti 64) (fun q hq => by
    by_cases e : q = a
    · subst e; rw [dcr_s]; omega
    · rw [dcr_n e]; exact hl q hq)
  rw [tot_dcr ha (by omega), CT_stk hC] at h1
  omega
def TB (ti : Nat → Nat) (few : Nat → Int32) (c : Nat) : Prop := ∀ l, (∀ q, q < pcn ti 64 → l q ≤ stk ti q) → cod (stk ti) l (pcn ti 64) < c → ∀ a, a < pcn ti 64 → l a < stk ti a → few (cod (stk ti) l (pcn ti 64) * pcn ti 64 + a) = nI (FV ti l a)
theorem TB_V {ti l : Nat → Nat} {few : Nat → Int32} {c : Nat} (hl : ∀ q, q < pcn ti 64 → l q ≤ stk ti q) (hc : cod (stk ti) l (pcn ti 64) = c) (hT : ∀ l', (∀ q, q < pcn ti 64 → l' q ≤ stk ti q) → cod (stk ti) l' (pcn ti 64) < c → ∀ a, a < pcn ti 64 → l' a < stk ti a → few (cod (stk ti) l' (pcn ti 64) * pcn ti 64 + a) = nI (FV ti l' a)) : ∀ q, q < pcn ti 64 → 0 < l q → few ((c - prd (stk ti) q) * pcn ti 64 + q) = nI (FV ti (dcr l q) q) := fun q hq h0 => by
  have hdc := cod_dc (f := stk ti) (l := l) hq h0
  have hp := prd_pos (stk ti) q
  have := hT (dcr l q) (fun q' hq' => by
    have := hl q' hq'
    unfold dcr; split <;> omega) (by omega) q hq (by have := hl q hq; rw [dcr_s]; omega)
  rw [show c - prd (stk ti) q = cod (stk ti) (dcr l q) (pcn ti 64) by omega]; exact this
theorem wp_weigh {ti : Nat → Nat} {M len : Nat} (hC : CT ti M) (hlen : prd (stk ti) (pcn ti 64) * pcn ti 64 ≤ len) (hlen2 : len ≤ 49152) {stock step gaps few left op ah : Nat → Int32} {oc : Int32} (hst : ∀ q, q < pcn ti 64 → stock q = nI (stk ti q)) (hsp : ∀ q, q < pcn ti 64 → step q = nI (prd (stk ti) q)) (hg : ∀ a b, a < pcn ti 64 → b < pcn ti 64 → gaps (a * 12 + b) = nI (pc (plcf ti 64 a ^^^ plcf ti 64 b))) {k : (Nat → Int32) → (Nat → Int32) → (Nat → Int32) → (Nat → Int32) → Int32 → Prop}
    (h : ∀ few' left' op' ah' oc', TB ti few' (prd (stk ti) (pcn ti 64)) → k few' left' op' ah' oc') : wpX0_weighStates stock step gaps (nI (pcn ti 64)) (nI (prd (stk ti) (pcn ti 64))) len few left op ah oc k := by
  have hN := CT_N hC
  have hM := hC.2.2.2
  have hcd := CT_codes hC
  unfold wpX0_weighStates
  refine wloop_n (fun c st => ∃ few' left' op' ah' oc', st = (nI c, few', left', op', ah', oc') ∧ TB ti few' c ∧ (c < prd (stk ti) (pcn ti 64) → ∃ l, (∀ q, q < pcn ti 64 → l q ≤ stk ti q) ∧ (∀ q, q < pcn ti 64 → left' q = nI (l q)) ∧ cod (stk ti) l (pcn ti 64) = c)) (prd (stk ti) (pcn ti 64)) ⟨few, _, op, ah, oc, rfl, fun l _ hc => absurd hc (Nat.not_lt_zero _), fun _ => ⟨fun _ => 0, fun _ _ => Nat.zero_le _, fun _ _ => rfl, cod_0 (fun _ _ => rfl)⟩⟩ ?_ ?_
  · rintro c st again hc ⟨few', left', op', ah', oc', rfl, hT, hl⟩ hag
    obtain ⟨l, hl1, hl2, hl3⟩ := hl hc
    obtain ⟨m, hm, hmt⟩ := tot_M hC hl1
    rw [wbX0_weighStates_10]
    refine pk_le (prd (stk ti) (pcn ti 64)) c (fun z => absurd z (by omega)) (fun _ => ?_)
    refine wp_listOpen hC hl1 hl3 hlen hlen2 hsp hl2 (TB_V hl1 hl3 hT) (fun op2 ah2 ho => ?_)
    have hm1 : (c + 1) * pcn ti 64 ≤ prd (stk ti) (pcn ti 64) * pcn ti 64 := Nat.mul_le_mul_right _ hc
    rw [Nat.add_mul, Nat.one_mul] at hm1
    refine wloop_n (fun a st => ∃ few', st = (nI a, few') ∧ TB ti few' c ∧ ∀ a', a' < a → l a' < stk ti a' → few' (c * pcn ti 64 + a') = nI (FV ti l a')) (pcn ti 64) ⟨few', rfl, hT, fun a' ha' => absurd ha' (Nat.not_lt_zero _)⟩ ?_ ?_
    · rintro a st again2 ha ⟨few2, rfl, hT2, hr⟩ hag2
      have hl9 : l a ≤ 9 := Nat.le_trans (hl1 a ha) (hC.1 _)
      have hs9 : stk ti a ≤ 9 := hC.1 _
      have hpo : pcn l (pcn ti 64) ≤ pcn ti 64 := mbn_le _ _
      have put : ∀ v : Int32, (l a < stk ti a → v = nI (FV ti l a)) → again2 (nI (a + 1), upd few2 (c * pcn ti 64 + a) v) := fun v hv => by
        refine hag2 _ ⟨_, rfl, fun l' hl' hc' a' ha' hlt => ?_, fun a' ha' hlt => ?_⟩
        · have hne : cod (stk ti) l' (pcn ti 64) * pcn ti 64 + a' ≠ c * pcn ti 64 + a := by
            have : (cod (stk ti) l' (pcn ti 64) + 1) * pcn ti 64 ≤ c * pcn ti 64 := Nat.mul_le_mul_right _ hc'
            rw [Nat.add_mul, Nat.one_mul] at this
            omega
          rw [pk_un hne]; exact hT2 l' hl' hc' a' ha' hlt
        · by_cases e : a' = a
          · subst e; rw [pk_us]; exact hv hlt
          · rw [pk_un (by omega)]; exact hr a' (by omega) hlt
      rw [wbX0_weighStates_25, show Int32.ofNat len = nI len from rfl]
      refine pk_le (pcn ti 64) a (fun z => absurd z (by omega)) (fun _ => ⟨vp_in_nI (by omega) (by omega), vp_in_nI (by omega) (by omega), ?_⟩)
      rw [nI_clamp (show a < 2 ^ 31 by omega), hst a ha, hl2 a ha, pk_mul, nI_add, nI_1, nI_clamp (show c * pcn ti 64 + a < 2 ^ 31 by omega)]
      refine pk_le (stk ti a) (l a) (fun z => hag2 _ ⟨few2, rfl, hT2, fun a' ha' hlt => ?_⟩) (fun z => ?_)
      · by_cases e : a' = a
        · subst e; omega
        · exact hr a' (by omega) hlt
      · refine pk_le len (c * pcn ti 64 + a) (fun z2 => absurd z2 (by omega)) (fun _ => ?_)
        refine pk_eq (pcn l (pcn ti 64)) 0 (fun z2 => ⟨vp_in_nI (by omega) (by omega), ?_⟩) (fun z2 => ?_)
        · refine put _ (fun _ => ?_)
          have hm0 : m = 0 := by
            rcases Nat.eq_zero_or_pos m with e | e
            · exact e
            · obtain ⟨m', rfl⟩ : ∃ m', m = m' + 1 := ⟨m - 1, by omega⟩
              have := (step_places (gp := fun _ => 0) (show m' < 13 by omega) hmt (fun _ => Or.inl (by omega))).2.1
              omega
          rw [FV_zero (by rw [hmt, hm0]; rfl)]
          exact nar_b (v := 0) (by omega)
        · obtain ⟨m', rfl⟩ : ∃ m', m = m' + 1 := by
            rcases Nat.eq_zero_or_pos m with e | e
            · exfalso
              subst e
              refine z2 (pcn_0 (fun q hq => ?_))
              have := tot_ge l hq
              omega
            · exact ⟨m - 1, by omega⟩
          obtain ⟨s1, s2, s3, s4⟩ := step_places (gp := fun s => pc (plcf ti 64 a ^^^ s)) (show m' < 13 by omega) hmt (gp_pl (plcf_2 ha).1)
          obtain ⟨f1, f2⟩ := FV_step (show m' < 13 by omega) hmt ha
          have hless := tot_less hC hl1 ha (by omega)
          have s72 := step_72 (gp := fun s => pc (plcf ti 64 a ^^^ s)) hmt (fun s => by
            rcases gp_pl (plcf_2 ha).1 s with h | h
            · exact Or.inl (by show pc (plcf ti 64 a ^^^ s) + 6 * m' < 72; omega)
            · exact Or.inr h)
          refine wp_least (G := fun q => pc (plcf ti 64 a ^^^ plcf ti 64 q)) (V := fun q => FV ti (dcr l q) q) (by omega) (by omega) s72 s2 (fun q hq => hg a q ha hq) ho rfl ?_
          obtain ⟨b1, b2, b3⟩ := aml_op (l := l) (n := pcn ti 64) (f := fun q => pc (plcf ti 64 a ^^^ plcf ti 64 q) + FV ti (dcr l q) q) s1 s2
          obtain ⟨c1, c2, c3, c4⟩ := aml_ok s1 ⟨_, (plcf_2 b1).1, opn_t (plcf_2 b1).2.1⟩
          unfold wpX0_changesBy
          have ho2 := ho _ (plcf_2 b1).1 (plcf_2 b1).2.1
          rw [(plcf_2 b1).2.2] at ho2
          rw [nI_clamp (by omega), ho2.1, ho2.2, show nI a * (12 : Int32) = nI (a * 12) from pk_mul a 12, nI_add]
          have hpl := (plcf_2 b1).1
          rw [nI_clamp (by omega), hg a _ ha hpl, nI_add]
          refine ⟨vp_in_nI (by omega) (by omega), vp_in_nI (by omega) (by omega), vp_in_nI (by omega) (by omega), vp_in_nI (by omega) (by omega), ?_⟩
          have ev : pc (plcf ti 64 a ^^^ plcf ti 64 (plcf l (pcn ti 64) (aml (fun _ => true) (fun o => pc (plcf ti 64 a ^^^ plcf ti 64 (plcf l (pcn ti 64) o)) + FV ti (dcr l (plcf l (pcn ti 64) o)) (plcf l (pcn ti 64) o)) (pcn l (pcn ti 64))))) + FV ti (dcr l (plcf l (pcn ti 64) (aml (fun _ => true) (fun o => pc (plcf ti 64 a ^^^ plcf ti 64 (plcf l (pcn ti 64) o)) + FV ti (dcr l (plcf l (pcn ti 64) o)) (plcf l (pcn ti 64) o)) (pcn l (pcn ti 64))))) (plcf l (pcn ti 64) (aml (fun _ => true) (fun o => pc (plcf ti 64 a ^^^ plcf ti 64 (plcf l (pcn ti 64) o)) + FV ti (dcr l (plcf l (pcn ti 64) o)) (plcf l (pcn ti 64) o)) (pcn l (pcn ti 64)))) = FV ti l a := by
            rw [b2, f1]; exact c3
          rw [ev, nar_b (by omega)]
          exact put _ (fun _ => rfl)
    · rintro st again2 ⟨few2, rfl, hT2, hr⟩
      rw [wbX0_weighStates_25]
      refine pk_le (pcn ti 64) (pcn ti 64) (fun _ => ?_) (fun z => absurd z (by omega))
      have hT3 : TB ti few2 (c + 1) := fun l' hl' hc' a' ha' hlt => by
        by_cases e : cod (stk ti) l' (pcn ti 64) = c
        · have e2 := cod_inj hl' hl1 (by rw [e, hl3])
          rw [e, FV_cong e2]
          exact hr a' ha' (by rw [← e2 a' ha']; exact hlt)
        · exact hT2 l' hl' (by omega) a' ha' hlt
      rw [nI_1]
      refine wp_countOn hC hl1 hst hl2 (fun l' left3 h1 h2 h3 => hag _ ⟨_, _, _, _, _, rfl, hT3, fun _ => ⟨l', h1, h2, by rw [h3, hl3]⟩⟩) (fun hfull left3 => hag _ ⟨_, _, _, _, _, rfl, hT3, fun hlt => by omega⟩)
  · rintro st again ⟨few', left', op', ah', oc', rfl, hT, hl⟩
    rw [wbX0_weighStates_10]
    exact pk_le (prd (stk ti) (pcn ti 64)) (prd (stk ti) (pcn ti 64)) (fun _ => h few' left' op' ah' oc' hT) (fun z => absurd z (by omega))
