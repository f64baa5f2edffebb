/-! the class's CHAINS -/
def stk (ti : Nat → Nat) : Nat → Nat := fun q => ti (plcf ti 64 q)
def FV (ti l : Nat → Nat) (at_ : Nat) : Nat := fcs (tot l (pcn ti 64)).toNat (lsf ti l) (plcf ti 64 at_)
def CT (ti : Nat → Nat) (M : Nat) : Prop := (∀ s, ti s ≤ 9) ∧ (∀ s, 64 ≤ s → ti s = 0) ∧ tot ti 64 = (M : Int) ∧ M ≤ 12
theorem CT_N {ti : Nat → Nat} {M : Nat} (h : CT ti M) : pcn ti 64 ≤ M := by
  have := pcn_tot (ti := ti) 64
  obtain ⟨_, _, h3, _⟩ := h
  omega
theorem CT_stk {ti : Nat → Nat} {M : Nat} (h : CT ti M) : tot (stk ti) (pcn ti 64) = (M : Int) := by
  rw [← tot_places 64 (Nat.le_refl _), ← h.2.2.1]
  exact tot_congr (fun s _ => lsf_full h.2.1 s)
theorem p2_12 : ∀ m, m < 13 → 2 ^ m ≤ 4096 := by decide
theorem CT_codes {ti : Nat → Nat} {M : Nat} (h : CT ti M) : prd (stk ti) (pcn ti 64) ≤ 4096 := by
  have h1 := prd_pow (f := stk ti) (pcn ti 64)
  have h2 := CT_stk h
  unfold tot at h2
  rw [h2] at h1
  have h3 := p2_12 M (by have := h.2.2.2; omega)
  have : ((M : Int)).toNat = M := by omega
  rw [this] at h1
  omega
theorem prd_le {f : Nat → Nat} {a b : Nat} (h : a ≤ b) : prd f a ≤ prd f b := by
  induction b with
  | zero => have : a = 0 := by omega
            subst this; exact Nat.le_refl _
  | succ b ih =>
    by_cases e : a = b + 1
    · subst e; exact Nat.le_refl _
    · have := ih (by omega)
      rw [prd]
      exact Nat.le_trans this (Nat.le_mul_of_pos_right _ (Nat.succ_pos _))
theorem wp_gather {ti : Nat → Nat} {M : Nat} (hC : CT ti M) {times places stock step : Nat → Int32} {pc0 cd0 : Int32} (ht : ∀ s, s < 64 → times s = nI (ti s)) {k : (Nat → Int32) → (Nat → Int32) → (Nat → Int32) → Int32 → Int32 → Prop}
    (h : ∀ pl' st' sp', (∀ q, q < pcn ti 64 → pl' q = nI (plcf ti 64 q) ∧ st' q = nI (stk ti q) ∧ sp' q = nI (prd (stk ti) q)) → k pl' st' sp' (nI (pcn ti 64)) (nI (prd (stk ti) (pcn ti 64)))) : wpX0_gatherPlaces times places stock step pc0 cd0 k := by
  have hN := CT_N hC
  have hM := hC.2.2.2
  have hcd := CT_codes hC
  unfold wpX0_gatherPlaces
  refine wloop_n (fun s st => ∃ pl' st' sp', st = (nI s, pl', st', sp', nI (pcn ti s), nI (prd (stk ti) (pcn ti s))) ∧ ∀ q, q < pcn ti s → pl' q = nI (plcf ti 64 q) ∧ st' q = nI (stk ti q) ∧ sp' q = nI (prd (stk ti) q)) 64 ⟨_, _, _, rfl, fun q hq => absurd hq (Nat.not_lt_zero _)⟩ ?_ ?_
  · rintro s st again hs ⟨pl', st', sp', rfl, hq⟩ hag
    have hmo := pcn_mono (ti := ti) (show s ≤ 64 by omega)
    have h9 := hC.1 s
    rw [wbX0_gatherPlaces_12]
    refine pk_le 64 s (fun z => absurd z (by omega)) (fun _ => ?_)
    refine pk_le 12 (pcn ti s) (fun z => ?_) (fun z => ⟨vp_in_nI hs (by omega), ?_⟩)
    · have e : pcn ti s = pcn ti 64 := by omega
      rw [e] at hq ⊢
      exact h pl' st' sp' hq
    · rw [nI_clamp (by omega), ht s hs, nI_1]
      refine pk_le (ti s) 0 (fun z2 => hag _ ⟨pl', st', sp', by rw [pcn_f (show ti s = 0 by omega)], by rw [pcn_f (show ti s = 0 by omega)]; exact hq⟩) (fun z2 => ?_)
      have h0 : 0 < ti s := by omega
      have hpl : plcf ti 64 (pcn ti s) = s := plcf_1 hs h0
      have hpl2 := pcn_lt hs h0
      have hpr := prd_le (f := stk ti) (show pcn ti s ≤ pcn ti 64 by omega)
      rw [nI_clamp (by omega), nI_1, nI_1, pk_mul]
      refine ⟨vp_in_nI (by omega) (by omega), vp_in_nI (by omega) (by omega), vp_in_nI (by omega) (by omega), vp_in_nI (by omega) (by omega), vp_in_nI (by omega) (by omega), hag _ ⟨upd pl' (pcn ti s) (nI s), upd st' (pcn ti s) (nI (ti s)), upd sp' (pcn ti s) (nI (prd (stk ti) (pcn ti s))), ?_, fun q hq2 => ?_⟩⟩
      · rw [pcn_t h0, prd, show stk ti (pcn ti s) = ti s by unfold stk; rw [hpl]]
      · rw [pcn_t h0] at hq2
        by_cases e : q = pcn ti s
        · subst e; rw [pk_us, pk_us, pk_us, hpl]
          exact ⟨rfl, by unfold stk; rw [hpl], rfl⟩
        · rw [pk_un e, pk_un e, pk_un e]; exact hq q (by omega)
  · rintro st again ⟨pl', st', sp', rfl, hq⟩
    rw [wbX0_gatherPlaces_12]
    exact pk_le 64 64 (fun _ => h pl' st' sp' hq) (fun z => absurd z (by omega))
theorem wp_gaps {ti : Nat → Nat} {M : Nat} (hC : CT ti M) {places gaps : Nat → Int32} (hp : ∀ q, q < pcn ti 64 → places q = nI (plcf ti 64 q)) (hg : ∀ j, j < 12 → gaps (144 + j) = 0) {k : (Nat → Int32) → Prop}
    (h : ∀ g', (∀ a b, a < pcn ti 64 → b < pcn ti 64 → g' (a * 12 + b) = nI (pc (plcf ti 64 a ^^^ plcf ti 64 b))) → (∀ j, j < 12 → g' (144 + j) = 0) → k g') : wpX0_measureGaps places gaps (nI (pcn ti 64)) k := by
  have hN := CT_N hC
  have hM := hC.2.2.2
  unfold wpX0_measureGaps
  refine wloop_n (fun a st => ∃ g', st = (nI a, g') ∧ (∀ a' b, a' < a → b < pcn ti 64 → g' (a' * 12 + b) = nI (pc (plcf ti 64 a' ^^^ plcf ti 64 b))) ∧ ∀ j, j < 12 → g' (144 + j) = 0) (pcn ti 64) ⟨gaps, rfl, fun a' b ha' => absurd ha' (Nat.not_lt_zero _), hg⟩ ?_ ?_
  · rintro a st again ha ⟨g', rfl, h1, h2⟩ hag
    rw [wbX0_measureGaps_2]
    refine pk_le (pcn ti 64) a (fun z => absurd z (by omega)) (fun _ => ?_)
    refine wloop_n (fun b st => ∃ g', st = (nI b, g') ∧ (∀ a' b', (a' < a ∧ b' < pcn ti 64) ∨ (a' = a ∧ b' < b) → g' (a' * 12 + b') = nI (pc (plcf ti 64 a' ^^^ plcf ti 64 b'))) ∧ ∀ j, j < 12 → g' (144 + j) = 0) (pcn ti 64) ⟨g', rfl, fun a' b' hab => h1 a' b' (by omega) (by omega), h2⟩ ?_ ?_
    · rintro b st again2 hb ⟨g', rfl, h1, h2⟩ hag2
      rw [wbX0_measureGaps_12]
      refine pk_le (pcn ti 64) b (fun z => absurd z (by omega)) (fun _ => ?_)
      rw [show nI a * (12 : Int32) = nI (a * 12) from pk_mul a 12, nI_add, nI_clamp (show a < 2 ^ 31 by omega), nI_clamp (show b < 2 ^ 31 by omega), nI_clamp (show a * 12 + b < 2 ^ 31 by omega), hp a ha, hp b hb, xor_tab _ (plcf_2 ha).1 _ (plcf_2 hb).1, vbc_pc _ (xor64 (plcf_2 ha).1 (plcf_2 hb).1), nI_1]
      refine ⟨vp_in_nI (by omega) (by omega), vp_in_nI (by omega) (by omega), vp_in_nI (by omega) (by omega), hag2 _ ⟨_, rfl, fun a' b' hab => ?_, fun j hj => ?_⟩⟩
      · by_cases e : a' = a ∧ b' = b
        · obtain ⟨rfl, rfl⟩ := e; rw [pk_us]
        · rw [pk_un (by omega)]; exact h1 a' b' (by omega)
      · rw [pk_un (by omega)]; exact h2 j hj
    · rintro st again2 ⟨g', rfl, h1, h2⟩
      rw [wbX0_measureGaps_12]
      refine pk_le (pcn ti 64) (pcn ti 64) (fun _ => ?_) (fun z => absurd z (by omega))
      rw [nI_1]
      exact hag _ ⟨g', rfl, fun a' b' ha' hb' => h1 a' b' (by omega), h2⟩
  · rintro st again ⟨g', rfl, h1, h2⟩
    rw [wbX0_measureGaps_2]
    exact pk_le (pcn ti 64) (pcn ti 64) (fun _ => h g' (fun a b ha hb => h1 a b ha hb) h2) (fun z => absurd z (by omega))
def nln (n need : Nat) : Nat := min 49152 (max need (2 * n))
theorem wp_room {n need : Nat} (hn : n ≤ 49152) (hneed : need ≤ 49152) {q : Nat} {few : Nat → Int32} {a1 : Int32} (ha : a1 = nI need) {bud : Nat} (hb : n < need → nln n need ≤ bud) {k : Nat → Nat → (Nat → Int32) → Prop} (h1 : need ≤ n → k q n few) (h2 : n < need → ∀ q', k q' (nln n need) (fun _ => 0)) : wpX0_makeRoom q n few a1 bud k := by
  subst ha
  unfold wpX0_makeRoom
  have e0 : Int32.ofNat n = nI n := rfl
  rw [e0]
  refine pk_le need n (fun z => h1 z) (fun z => ?_)
  refine pk_lt 49152 need (fun z2 => absurd z2 (by omega)) (fun _ => ?_)
  have e1 : (2 : Int32) * nI n = nI (2 * n) := pk_mul 2 n
  rw [e1]
  have e2 : (if nI need < nI (2 * n) then nI (2 * n) else nI need) = nI (max need (2 * n)) := by
    by_cases c : need < 2 * n
    · rw [if_pos (nI_lt c (by omega)), Nat.max_eq_right (by omega)]
    · rw [if_neg (nI_nlt (by omega) (by omega)), Nat.max_eq_left (by omega)]
  rw [e2]
  have hmx : max need (2 * n) ≤ 98304 := by omega
  have e3 : (if nI (max need (2 * n)) < (49152 : Int32) then nI (max need (2 * n)) else (49152 : Int32)) = nI (nln n need) := by
    unfold nln
    by_cases c : max need (2 * n) < 49152
    · rw [if_pos (show nI (max need (2 * n)) < (49152 : Int32) from (show nI (max need (2 * n)) < nI 49152 from nI_lt c (by omega))), Nat.min_eq_right (by omega)]
    · rw [if_neg (show ¬ nI (max need (2 * n)) < (49152 : Int32) from (show ¬ nI (max need (2 * n)) < nI 49152 from nI_nlt (by omega) (by omega))), Nat.min_eq_left (by omega)]; rfl
  rw [e3]
  have hl : nln n need ≤ 49152 := by unfold nln; omega
  rw [nI_clamp (by omega)]
  exact ⟨nI_pos (by omega), by omega, hb z, h2 z⟩
theorem wp_listOpen {ti l : Nat → Nat} {M c len : Nat} (hC : CT ti M) (hl : ∀ q, q < pcn ti 64 → l q ≤ stk ti q) (hc : cod (stk ti) l (pcn ti 64) = c) (hlen : prd (stk ti) (pcn ti 64) * pcn ti 64 ≤ len) (hlen2 : len ≤ 49152) {step few left op ah : Nat → Int32} {oc : Int32} (hs : ∀ q, q < pcn ti 64 → step q = nI (prd (stk ti) q)) (hle : ∀ q, q < pcn ti 64 → left q = nI (l q)) {V : Nat → Nat} (hV : ∀ q, q < pcn ti 64 → 0 < l q → few ((c - prd (stk ti) q) * pcn ti 64 + q) = nI (V q)) {k : (Nat → Int32) → (Nat → Int32) → Int32 → Prop}
    (h : ∀ op' ah', (∀ q, q < pcn ti 64 → 0 < l q → op' (pcn l q) = nI q ∧ ah' (pcn l q) = nI (V q)) → k op' ah' (nI (pcn l (pcn ti 64)))) : wpX0_listOpen step (nI (pcn ti 64)) len few left op ah oc (nI c) k := by
  have hN := CT_N hC
  have hM := hC.2.2.2
  have hcd := CT_codes hC
  have hclt := cod_lt hl
  unfold wpX0_listOpen
  refine wloop_n (fun p st => ∃ op' ah', st = (nI p, op', ah', nI (pcn l p)) ∧ ∀ q, q < p → 0 < l q → op' (pcn l q) = nI q ∧ ah' (pcn l q) = nI (V q)) (pcn ti 64) ⟨op, ah, rfl, fun q hq => absurd hq (Nat.not_lt_zero _)⟩ ?_ ?_
  · rintro p st again hp ⟨op', ah', rfl, hq⟩ hag
    have hl9 : l p ≤ 9 := Nat.le_trans (hl p hp) (hC.1 _)
    have hpc : pcn l p ≤ p := mbn_le _ _
    rw [wbX0_listOpen_7, show Int32.ofNat len = nI len from rfl]
    refine pk_le (pcn ti 64) p (fun z => absurd z (by omega)) (fun _ => ⟨vp_in_nI (by omega) (by omega), vp_in_nI (by omega) (by omega), ?_⟩)
    rw [nI_clamp (show p < 2 ^ 31 by omega), hle p hp, hs p hp, nI_1]
    refine pk_le (l p) 0 (fun z => hag _ ⟨op', ah', by rw [pcn_f (show l p = 0 by omega)], fun q hq1 h0 => ?_⟩) (fun z => ?_)
    · by_cases e : q = p
      · subst e; omega
      · exact hq q (by omega) h0
    · have h0 : 0 < l p := by omega
      have hdc := cod_dc (f := stk ti) (l := l) hp h0
      have hpl : prd (stk ti) p ≤ c := by omega
      have hlt : c - prd (stk ti) p < prd (stk ti) (pcn ti 64) := by omega
      have hm1 : (c - prd (stk ti) p + 1) * pcn ti 64 ≤ prd (stk ti) (pcn ti 64) * pcn ti 64 := Nat.mul_le_mul_right _ hlt
      rw [Nat.add_mul, Nat.one_mul] at hm1
      rw [pk_sub hpl, pk_mul, nI_add, nI_1, nI_clamp (show pcn l p < 2 ^ 31 by omega)]
      have hix : (c - prd (stk ti) p) * pcn ti 64 + p < len := by omega
      refine ⟨fun z2 => absurd z2 (nI_pos (by omega)), fun _ => pk_le len ((c - prd (stk ti) p) * pcn ti 64 + p) (fun z3 => absurd z3 (by omega)) (fun _ => ⟨vp_in_nI (by omega) (by omega), vp_in_nI hix (by omega), vp_in_nI (by omega) (by omega), hag _ ⟨upd op' (pcn l p) (nI p), upd ah' (pcn l p) (few ((nI ((c - prd (stk ti) p) * pcn ti 64 + p)).toNatClampNeg)), by rw [pcn_t h0], fun q hq1 h1 => ?_⟩⟩)⟩
      by_cases e : q = p
      · subst e; rw [pk_us, pk_us, nI_clamp (by omega), hV q hp h0]; exact ⟨rfl, rfl⟩
      · have hlt2 : pcn l q < pcn l p := by
          have := pcn_mono (ti := l) (show q + 1 ≤ p by omega)
          rw [pcn_t h1] at this; omega
        rw [pk_un (by omega), pk_un (by omega)]; exact hq q (by omega) h1
  · rintro st again ⟨op', ah', rfl, hq⟩
    rw [wbX0_listOpen_7]
    exact pk_le (pcn ti 64) (pcn ti 64) (fun _ => h op' ah' hq) (fun z => absurd z (by omega))
/-- over the open places, one behind the other -/
theorem aml_op {l : Nat → Nat} {n : Nat} {f : Nat → Nat} (hf : ∀ q, q < n → opn l q = true → f q < 10000) (hex : 0 < pcn l n) : aml (fun _ => true) (fun o => f (plcf l n o)) (pcn l n) < pcn l n ∧ plcf l n (aml (fun _ => true) (fun o => f (plcf l n o)) (pcn l n)) = aml (opn l) f n ∧ mnl (fun _ => true) (fun o => f (plcf l n o)) (pcn l n) = mnl (opn l) f n := by
  have hf2 : ∀ o, o < pcn l n → true = true → (fun o => f (plcf l n o)) o < 10000 := fun o ho _ => hf _ (plcf_2 ho).1 (opn_t (plcf_2 ho).2.1)
  obtain ⟨a1, a2, a3, a4⟩ := aml_ok (p := fun _ => true) hf2 ⟨0, hex, rfl⟩
  have e := mnl_eq (p := fun _ => true) (q := opn l) (f := fun o => f (plcf l n o)) (g := f) (n := pcn l n) (m := n) hf2 hf (fun o ho _ => ⟨plcf l n o, (plcf_2 ho).1, opn_t (plcf_2 ho).2.1, rfl⟩) (fun q hq ho => ⟨pcn l q, by
      have := pcn_mono (ti := l) (show q + 1 ≤ n by omega)
      rw [pcn_t (opn_0 ho)] at this; omega, rfl, by show f (plcf l n (pcn l q)) = f q; rw [plcf_1 hq (opn_0 ho)]⟩) ⟨0, hex, rfl⟩
  refine ⟨a1, ?_, e⟩
  refine (aml_uniq hf (plcf_2 a1).1 (opn_t (plcf_2 a1).2.1) (by rw [← e]; exact a3) (fun q hq ho => ?_)).symm
  have h4 : pcn l q < aml (fun _ => true) (fun o => f (plcf l n o)) (pcn l n) := by
    have := pcn_mono (ti := l) (show q + 1 ≤ _ from hq)
    rw [pcn_t (opn_0 ho), (plcf_2 a1).2.2] at this; omega
  have := a4 _ h4 rfl
  rw [plcf_1 (by have := (plcf_2 a1).1; omega) (opn_0 ho)] at this
  rw [← e]; exact this
theorem wp_least {l : Nat → Nat} {n at_ : Nat} (hn : n ≤ 12) (hat : at_ ≤ 12) {G V : Nat → Nat} (hf : ∀ q, q < n → opn l q = true → G q + V q < 72) (hex : 0 < pcn l n) {gaps op ah : Nat → Int32} (hg : ∀ q, q < n → gaps (at_ * 12 + q) = nI (G q)) (ho : ∀ q, q < n → 0 < l q → op (pcn l q) = nI q ∧ ah (pcn l q) = nI (V q)) {a1 : Int32} (ha : a1 = nI at_) {k : Int32 → Prop} (h : k (nI (aml (fun _ => true) (fun o => G (plcf l n o) + V (plcf l n o)) (pcn l n)))) : wpX0_firstLeast gaps op ah (nI (pcn l n)) a1 k := by
  subst ha
  have hpn : pcn l n ≤ n := mbn_le _ _
  unfold wpX0_firstLeast
  refine wloop_n (fun o st => (o = 0 ∧ st = (0, 72, 0)) ∨ (0 < o ∧ st = (nI (aml (fun _ => true) (fun o => G (plcf l n o) + V (plcf l n o)) o), nI (mnl (fun _ => true) (fun o => G (plcf l n o) + V (plcf l n o)) o), nI o))) (pcn l n) (Or.inl ⟨rfl, rfl⟩) ?_ ?_
  · rintro o st again ho2 hst hag
    obtain ⟨b1, b2, b3⟩ := plcf_2 ho2
    have hfo := hf _ b1 (opn_t b2)
    obtain ⟨c1, c2⟩ := ho _ b1 b2
    rw [b3] at c1 c2
    have step : ∀ fd ls, st = (fd, ls, nI o) → ((ls ≤ nI (G (plcf l n o) + V (plcf l n o))) → again (fd, ls, nI (o + 1))) → (¬ ls ≤ nI (G (plcf l n o) + V (plcf l n o)) → again (nI o, nI (G (plcf l n o) + V (plcf l n o)), nI (o + 1))) → wbX0_firstLeast_14 (nI (pcn l n)) gaps op ah (nI at_) k st again := by
      intro fd ls e s1 s2
      subst e
      rw [wbX0_firstLeast_14]
      refine pk_le (pcn l n) o (fun z => absurd z (by omega)) (fun _ => ?_)
      rw [nI_clamp (by omega), c1, c2, show nI at_ * (12 : Int32) = nI (at_ * 12) from pk_mul at_ 12, nI_add, nI_clamp (by omega), hg _ b1, nI_add, nI_1]
      exact ⟨vp_in_nI (by omega) (by omega), vp_in_nI (by omega) (by omega), vp_in_nI (by omega) (by omega), s1, s2⟩
    rcases hst with ⟨rfl, rfl⟩ | ⟨h0, rfl⟩
    · refine step 0 72 rfl (fun z => absurd z ?_) (fun _ => hag _ (Or.inr ⟨by omega, ?_⟩))
      · show ¬ nI 72 ≤ _
        exact nI_ge (by omega) (by decide)
      · rw [aml, mnl, if_pos ⟨rfl, by show _ < 10000; exact Nat.lt_trans hfo (by decide)⟩, mnl, mnl, if_pos ⟨rfl, by show _ < 10000; exact Nat.lt_trans hfo (by decide)⟩]
    · have htop := mnl_top (p := fun _ => true) (f := fun o => G (plcf l n o) + V (plcf l n o)) o
      refine step _ _ rfl (fun z => hag _ (Or.inr ⟨by omega, ?_⟩)) (fun z => hag _ (Or.inr ⟨by omega, ?_⟩))
      · rw [nI_leI (by omega) (by omega)] at z
        rw [aml, mnl, if_neg (fun e => by have := e.2; omega), if_neg (fun e => by have := e.2; omega)]
      · rw [nI_leI (by omega) (by omega)] at z
        rw [aml, mnl, if_pos ⟨rfl, by omega⟩, if_pos ⟨rfl, by omega⟩]
  · rintro st again hst
    rcases hst with ⟨h1, _⟩ | ⟨_, rfl⟩
    · omega
    · rw [wbX0_firstLeast_14]
      exact pk_le (pcn l n) (pcn l n) (fun _ => h) (fun z => absurd z (by omega))
