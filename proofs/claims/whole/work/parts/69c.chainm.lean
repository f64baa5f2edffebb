/-! CHAINS: least values, places, codes -/
theorem mnl_le {p : Nat → Bool} {f : Nat → Nat} : ∀ {n k : Nat}, k < n → p k = true → mnl p f n ≤ f k
  | 0, _, h, _ => absurd h (Nat.not_lt_zero _)
  | n + 1, k, h, hp => by
    rw [mnl]
    by_cases e : k = n
    · subst e
      by_cases c : f k < mnl p f k
      · rw [if_pos ⟨hp, c⟩]; exact Nat.le_refl _
      · rw [if_neg (fun z => c z.2)]; omega
    · have := mnl_le (f := f) (n := n) (k := k) (by omega) hp
      split <;> omega
theorem mnl_top {p : Nat → Bool} {f : Nat → Nat} : ∀ n, mnl p f n ≤ 10000
  | 0 => Nat.le_refl _
  | n + 1 => by rw [mnl]; have := mnl_top (p := p) (f := f) n; split <;> omega
/-- the first place of the least value -/
theorem aml_ok {p : Nat → Bool} {f : Nat → Nat} : ∀ {n : Nat}, (∀ k, k < n → p k = true → f k < 10000) → (∃ k, k < n ∧ p k = true) → aml p f n < n ∧ p (aml p f n) = true ∧ f (aml p f n) = mnl p f n ∧ ∀ k, k < aml p f n → p k = true → mnl p f n < f k
  | 0, _, ⟨k, h, _⟩ => absurd h (Nat.not_lt_zero _)
  | n + 1, hf, ⟨k, hk, hp⟩ => by
    rw [mnl, aml]
    by_cases ex : ∃ k, k < n ∧ p k = true
    · obtain ⟨h1, h2, h3, h4⟩ := aml_ok (fun k hk => hf k (by omega)) ex
      by_cases c : p n = true ∧ f n < mnl p f n
      · rw [if_pos c, if_pos c]
        exact ⟨by omega, c.1, rfl, fun k hk hp => Nat.lt_of_lt_of_le c.2 (mnl_le hk hp)⟩
      · rw [if_neg c, if_neg c]
        exact ⟨by omega, h2, h3, h4⟩
    · have e : k = n := by
        rcases Nat.lt_or_ge k n with h | h
        · exact absurd ⟨k, h, hp⟩ ex
        · omega
      subst e
      have e2 : mnl p f k = 10000 := by
        have : ∀ m, m ≤ k → mnl p f m = 10000 := by
          intro m
          induction m with
          | zero => intro _; rfl
          | succ m ih =>
            intro hm
            rw [mnl, if_neg (fun c => ex ⟨m, by omega, c.1⟩)]; exact ih (by omega)
        exact this k (Nat.le_refl _)
      have c : p k = true ∧ f k < mnl p f k := ⟨hp, by rw [e2]; exact hf k (by omega) hp⟩
      rw [if_pos c, if_pos c]
      exact ⟨by omega, hp, rfl, fun j hj hpj => absurd ⟨j, hj, hpj⟩ ex⟩
/-- two lists of the same values have the same least one -/
theorem mnl_eq {p q : Nat → Bool} {f g : Nat → Nat} {n m : Nat} (hf : ∀ k, k < n → p k = true → f k < 10000) (hg : ∀ k, k < m → q k = true → g k < 10000) (h1 : ∀ k, k < n → p k = true → ∃ j, j < m ∧ q j = true ∧ g j = f k) (h2 : ∀ j, j < m → q j = true → ∃ k, k < n ∧ p k = true ∧ f k = g j) (he : ∃ k, k < n ∧ p k = true) : mnl p f n = mnl q g m := by
  obtain ⟨a1, a2, a3, _⟩ := aml_ok hf he
  obtain ⟨j, j1, j2, j3⟩ := h1 _ a1 a2
  obtain ⟨b1, b2, b3, _⟩ := aml_ok hg (n := m) ⟨j, j1, j2⟩
  obtain ⟨k, k1, k2, k3⟩ := h2 _ b1 b2
  have l1 := mnl_le (f := g) j1 j2
  have l2 := mnl_le (f := f) k1 k2
  omega
theorem aml_uniq {p : Nat → Bool} {f : Nat → Nat} {n a : Nat} (hf : ∀ k, k < n → p k = true → f k < 10000) (ha : a < n) (h1 : p a = true) (h2 : f a = mnl p f n) (h3 : ∀ k, k < a → p k = true → mnl p f n < f k) : aml p f n = a := by
  obtain ⟨b1, b2, b3, b4⟩ := aml_ok hf ⟨a, ha, h1⟩
  rcases Nat.lt_trichotomy (aml p f n) a with h | h | h
  · have := h3 _ h b2; omega
  · exact h
  · have := b4 a h h1; omega
theorem mnl_cong {p q : Nat → Bool} {f g : Nat → Nat} : ∀ {n : Nat}, (∀ k, k < n → p k = q k) → (∀ k, k < n → p k = true → f k = g k) → mnl p f n = mnl q g n ∧ aml p f n = aml q g n
  | 0, _, _ => ⟨rfl, rfl⟩
  | n + 1, h1, h2 => by
    obtain ⟨i1, i2⟩ := mnl_cong (n := n) (fun k hk => h1 k (by omega)) (fun k hk => h2 k (by omega))
    rw [mnl, mnl, aml, aml, i1, i2, ← h1 n (by omega)]
    cases hp : p n with
    | false => simp
    | true => rw [h2 n (by omega) hp]; exact ⟨rfl, rfl⟩
theorem xor_lt64 {a b : Nat} (ha : a < 64) (hb : b < 64) : a ^^^ b < 64 := xor64 ha hb
theorem tot_pos {l : Nat → Nat} {n : Nat} (h : 0 < tot l n) : ∃ s, s < n ∧ 0 < l s := by
  obtain ⟨s, hs, h1⟩ := sm_pos_ex (n := n) (f := fun s => (l s : Int)) (fun _ _ => Int.natCast_nonneg _) (by unfold tot at h; omega)
  exact ⟨s, hs, by omega⟩
theorem tot_dcr {l : Nat → Nat} {s n : Nat} (hs : s < n) (h0 : 0 < l s) : tot (dcr l s) n = tot l n - 1 := tot_dc hs h0
theorem dcr_s (l : Nat → Nat) (s : Nat) : dcr l s s = l s - 1 := if_pos rfl
theorem dcr_n {l : Nat → Nat} {s t : Nat} (h : t ≠ s) : dcr l s t = l t := if_neg h
theorem fcs_le : ∀ (m : Nat) (l : Nat → Nat) (a : Nat), tot l 64 = (m : Int) → a < 64 → fcs m l a ≤ 6 * m
  | 0, _, _, _, _ => Nat.le_refl _
  | m + 1, l, a, h, ha => by
    rw [fcs]
    obtain ⟨s, hs, h0⟩ := tot_pos (l := l) (n := 64) (by omega)
    have h1 := mnl_le (p := opn l) (f := fun s => pc (a ^^^ s) + fcs m (dcr l s) s) hs (by unfold opn; exact decide_eq_true h0)
    have h2 := fcs_le m (dcr l s) s (by rw [tot_dcr hs h0]; omega) hs
    have h3 := pc_le _ (xor64 ha hs)
    omega
theorem opn_t {l : Nat → Nat} {s : Nat} (h : 0 < l s) : opn l s = true := decide_eq_true h
theorem opn_0 {l : Nat → Nat} {s : Nat} (h : opn l s = true) : 0 < l s := of_decide_eq_true h
theorem opn_f {l : Nat → Nat} {s : Nat} (h : l s = 0) : opn l s = false := decide_eq_false (by omega)
theorem fcs_cong : ∀ (m : Nat) {l l' : Nat → Nat} (a : Nat), (∀ s, s < 64 → l s = l' s) → fcs m l a = fcs m l' a
  | 0, _, _, _, _ => rfl
  | m + 1, l, l', a, h => by
    rw [fcs, fcs]
    refine (mnl_cong (fun k hk => by unfold opn; rw [h k hk]) (fun k hk _ => ?_)).1
    rw [fcs_cong m (l' := dcr l' k) k (fun s hs => by unfold dcr; rw [h s hs])]
/-- the values of a step are small -/
theorem stp_lt {m : Nat} (hm : m < 13) {l : Nat → Nat} (h : tot l 64 = ((m + 1 : Nat) : Int)) (hl : ∀ s, 64 ≤ s → l s = 0) {gp : Nat → Nat} (hg : ∀ s, gp s ≤ 6 ∨ 64 ≤ s) : ∀ s, opn l s = true → gp s + fcs m (dcr l s) s < 10000 := fun s hs => by
  have h0 := opn_0 hs
  have hs64 : s < 64 := by
    rcases Nat.lt_or_ge s 64 with h | h
    · exact h
    · rw [hl s h] at h0; omega
  have := fcs_le m (dcr l s) s (by rw [tot_dcr hs64 h0]; omega) hs64
  have := hg s
  omega
/-! places: the SETTINGS that are tried -/
def pcn (ti : Nat → Nat) (s : Nat) : Nat := mbn (opn ti) s
theorem pcn_t {ti : Nat → Nat} {s : Nat} (h : 0 < ti s) : pcn ti (s + 1) = pcn ti s + 1 := mbn_t (opn_t h)
theorem pcn_f {ti : Nat → Nat} {s : Nat} (h : ti s = 0) : pcn ti (s + 1) = pcn ti s := mbn_f (opn_f h)
theorem pcn_mono {ti : Nat → Nat} {a b : Nat} (h : a ≤ b) : pcn ti a ≤ pcn ti b := by
  induction b with
  | zero => have : a = 0 := by omega
            subst this; exact Nat.le_refl _
  | succ b ih =>
    by_cases e : a = b + 1
    · subst e; exact Nat.le_refl _
    · have := ih (by omega)
      by_cases c : ti b = 0
      · rw [pcn_f c]; exact this
      · rw [pcn_t (by omega)]; omega
def plcf (ti : Nat → Nat) : Nat → Nat → Nat
  | 0, _ => 0
  | s + 1, q => if 0 < ti s ∧ q = pcn ti s then s else plcf ti s q
theorem plcf_1 {ti : Nat → Nat} : ∀ {n s : Nat}, s < n → 0 < ti s → plcf ti n (pcn ti s) = s
  | 0, _, h, _ => absurd h (Nat.not_lt_zero _)
  | n + 1, s, h, h0 => by
    rw [plcf]
    by_cases e : s = n
    · subst e; rw [if_pos ⟨h0, rfl⟩]
    · rw [if_neg]
      · exact plcf_1 (by omega) h0
      · rintro ⟨h1, h2⟩
        have := pcn_mono (ti := ti) (show s + 1 ≤ n by omega)
        rw [pcn_t h0] at this
        omega
theorem plcf_2 {ti : Nat → Nat} : ∀ {n q : Nat}, q < pcn ti n → plcf ti n q < n ∧ 0 < ti (plcf ti n q) ∧ pcn ti (plcf ti n q) = q
  | 0, q, h => absurd h (Nat.not_lt_zero _)
  | n + 1, q, h => by
    rw [plcf]
    by_cases c : 0 < ti n ∧ q = pcn ti n
    · rw [if_pos c]; exact ⟨by omega, c.1, c.2.symm⟩
    · rw [if_neg c]
      have h2 : q < pcn ti n := by
        by_cases e : ti n = 0
        · rw [pcn_f e] at h; exact h
        · rw [pcn_t (by omega)] at h
          have : q ≠ pcn ti n := fun e2 => c ⟨by omega, e2⟩
          omega
      obtain ⟨a1, a2, a3⟩ := plcf_2 h2
      exact ⟨by omega, a2, a3⟩
theorem pcn_tot {ti : Nat → Nat} : ∀ n, (pcn ti n : Int) ≤ tot ti n
  | 0 => Int.le_refl _
  | n + 1 => by
    have ih := pcn_tot (ti := ti) n
    have es : tot ti (n + 1) = tot ti n + (ti n : Int) := rfl
    rw [es]
    by_cases c : ti n = 0
    · rw [pcn_f c]; omega
    · rw [pcn_t (by omega)]; omega
/-- what is left at the places, as of SETTINGS -/
def lsf (ti l : Nat → Nat) : Nat → Nat := fun s => if s < 64 ∧ 0 < ti s then l (pcn ti s) else 0
theorem lsf_op {ti l : Nat → Nat} {s : Nat} (h : 0 < lsf ti l s) : s < 64 ∧ 0 < ti s ∧ 0 < l (pcn ti s) := by
  unfold lsf at h
  by_cases c : s < 64 ∧ 0 < ti s
  · rw [if_pos c] at h; exact ⟨c.1, c.2, h⟩
  · rw [if_neg c] at h; omega
theorem lsf_pl {ti l : Nat → Nat} {q : Nat} (hq : q < pcn ti 64) : lsf ti l (plcf ti 64 q) = l q := by
  obtain ⟨h1, h2, h3⟩ := plcf_2 hq
  unfold lsf; rw [if_pos ⟨h1, h2⟩, h3]
theorem pcn_lt {ti : Nat → Nat} {s : Nat} (h : s < 64) (h0 : 0 < ti s) : pcn ti s < pcn ti 64 := by
  have := pcn_mono (ti := ti) (show s + 1 ≤ 64 by omega)
  rw [pcn_t h0] at this; omega
/-- the least over the places is the least over the SETTINGS, and the first likewise -/
theorem mnl_places {ti l : Nat → Nat} {f : Nat → Nat} (hf : ∀ s, s < 64 → opn (lsf ti l) s = true → f s < 10000) (hex : ∃ q, q < pcn ti 64 ∧ opn l q = true) : mnl (opn (lsf ti l)) f 64 = mnl (opn l) (fun q => f (plcf ti 64 q)) (pcn ti 64) ∧ aml (opn (lsf ti l)) f 64 = plcf ti 64 (aml (opn l) (fun q => f (plcf ti 64 q)) (pcn ti 64)) := by
  have hf2 : ∀ q, q < pcn ti 64 → opn l q = true → (fun q => f (plcf ti 64 q)) q < 10000 := fun q hq ho => hf _ (plcf_2 hq).1 (opn_t (by rw [lsf_pl hq]; exact opn_0 ho))
  have e := mnl_eq (p := opn l) (q := opn (lsf ti l)) (f := fun q => f (plcf ti 64 q)) (g := f) hf2 hf (fun q hq ho => ⟨plcf ti 64 q, (plcf_2 hq).1, opn_t (by rw [lsf_pl hq]; exact opn_0 ho), rfl⟩) (fun s hs ho => by
    obtain ⟨h1, h2, h3⟩ := lsf_op (opn_0 ho)
    exact ⟨pcn ti s, pcn_lt h1 h2, opn_t h3, by show f (plcf ti 64 (pcn ti s)) = f s; rw [plcf_1 h1 h2]⟩) hex
  refine ⟨e.symm, ?_⟩
  obtain ⟨a1, a2, a3, a4⟩ := aml_ok hf2 hex
  refine aml_uniq hf (plcf_2 a1).1 (opn_t (by rw [lsf_pl a1]; exact opn_0 a2)) (by rw [← e]; exact a3) (fun s hs ho => ?_)
  obtain ⟨h1, h2, h3⟩ := lsf_op (opn_0 ho)
  have h4 : pcn ti s < aml (opn l) (fun q => f (plcf ti 64 q)) (pcn ti 64) := by
    have := pcn_mono (ti := ti) (show s + 1 ≤ _ from hs)
    rw [pcn_t h2, (plcf_2 a1).2.2] at this; omega
  have := a4 _ h4 (opn_t h3)
  rw [← e]
  rw [plcf_1 h1 h2] at this
  exact this
/-! codes: what is left at the places as one number -/
def prd (f : Nat → Nat) : Nat → Nat
  | 0 => 1
  | n + 1 => prd f n * (f n + 1)
def cod (f l : Nat → Nat) : Nat → Nat
  | 0 => 0
  | n + 1 => cod f l n + l n * prd f n
theorem prd_pos (f : Nat → Nat) : ∀ n, 0 < prd f n
  | 0 => Nat.one_pos
  | n + 1 => Nat.mul_pos (prd_pos f n) (Nat.succ_pos _)
theorem cod_lt {f l : Nat → Nat} : ∀ {n : Nat}, (∀ q, q < n → l q ≤ f q) → cod f l n < prd f n
  | 0, _ => Nat.one_pos
  | n + 1, h => by
    have ih := cod_lt (n := n) (fun q hq => h q (by omega))
    have h1 : l n * prd f n ≤ f n * prd f n := Nat.mul_le_mul_right _ (h n (by omega))
    rw [cod, prd, Nat.mul_add, Nat.mul_one, Nat.mul_comm (prd f n)]
    omega
theorem cod_inj {f l l' : Nat → Nat} : ∀ {n : Nat}, (∀ q, q < n → l q ≤ f q) → (∀ q, q < n → l' q ≤ f q) → cod f l n = cod f l' n → ∀ q, q < n → l q = l' q
  | 0, _, _, _, q, hq => absurd hq (Nat.not_lt_zero _)
  | n + 1, h, h', e, q, hq => by
    have a := cod_lt (n := n) (fun q hq => h q (by omega))
    have b := cod_lt (n := n) (fun q hq => h' q (by omega))
    rw [cod, cod] at e
    have hp := prd_pos f n
    have d1 : (cod f l n + l n * prd f n) / prd f n = l n := by rw [Nat.add_mul_div_right _ _ hp, Nat.div_eq_of_lt a]; omega
    have d2 : (cod f l' n + l' n * prd f n) / prd f n = l' n := by rw [Nat.add_mul_div_right _ _ hp, Nat.div_eq_of_lt b]; omega
    have d3 : l n = l' n := by rw [← d1, ← d2, e]
    by_cases c : q = n
    · subst c; exact d3
    · exact cod_inj (n := n) (fun q hq => h q (by omega)) (fun q hq => h' q (by omega)) (by rw [d3] at e; omega) q (by omega)
theorem cod_cong {f l l' : Nat → Nat} : ∀ {n : Nat}, (∀ q, q < n → l q = l' q) → cod f l n = cod f l' n
  | 0, _ => rfl
  | n + 1, h => by rw [cod, cod, cod_cong (n := n) (fun q hq => h q (by omega)), h n (by omega)]
theorem cod_dc {f l : Nat → Nat} : ∀ {n q : Nat}, q < n → 0 < l q → cod f (dcr l q) n + prd f q = cod f l n
  | 0, _, h, _ => absurd h (Nat.not_lt_zero _)
  | n + 1, q, h, h0 => by
    rw [cod, cod]
    by_cases c : q = n
    · subst c
      rw [cod_cong (l' := l) (fun q' hq' => dcr_n (by omega)), dcr_s]
      obtain ⟨v, hv⟩ : ∃ v, l q = v + 1 := ⟨l q - 1, by omega⟩
      rw [hv, Nat.add_mul, Nat.one_mul]
      show cod f l q + v * prd f q + prd f q = _
      omega
    · have := cod_dc (f := f) (l := l) (n := n) (q := q) (by omega) h0
      rw [dcr_n (fun z => c z.symm)]; omega
theorem cod_0 {f l : Nat → Nat} {n : Nat} (h : ∀ q, q < n → l q = 0) : cod f l n = 0 := by
  induction n with
  | zero => rfl
  | succ n ih => rw [cod, ih (fun q hq => h q (by omega)), h n (by omega)]; simp
theorem cod_pos {f l : Nat → Nat} : ∀ {n q : Nat}, q < n → 0 < l q → 0 < cod f l n
  | 0, _, h, _ => absurd h (Nat.not_lt_zero _)
  | n + 1, q, h, h0 => by
    rw [cod]
    by_cases c : q = n
    · subst c; have := Nat.mul_pos h0 (prd_pos f q); omega
    · have := cod_pos (f := f) (l := l) (n := n) (q := q) (by omega) h0; omega
/-- the next code -/
theorem cod_next {f l : Nat → Nat} {p : Nat} : ∀ {n : Nat}, p < n → (∀ q, q < p → l q = f q) → cod f (fun q => if q < p then 0 else if q = p then l q + 1 else l q) n = cod f l n + 1
  | 0, h, _ => absurd h (Nat.not_lt_zero _)
  | n + 1, h, hm => by
    rw [cod, cod]
    by_cases c : p = n
    · subst c
      rw [cod_0 (fun q hq => if_pos hq), if_neg (Nat.lt_irrefl p), if_pos rfl]
      have full : ∀ m, m ≤ p → cod f l m + 1 = prd f m := by
        intro m
        induction m with
        | zero => intro _; rfl
        | succ m ih =>
          intro hm2
          rw [cod, prd, hm m (by omega), Nat.mul_add, Nat.mul_one, Nat.mul_comm (prd f m)]
          have := ih (by omega); omega
      have := full p (Nat.le_refl _)
      rw [Nat.add_mul, Nat.one_mul]; omega
    · rw [cod_next (n := n) (by omega) hm, if_neg (by omega), if_neg (fun z => c z.symm)]; omega
theorem cod_full {f l : Nat → Nat} {n : Nat} (h : ∀ q, q < n → l q = f q) : cod f l n + 1 = prd f n := by
  induction n with
  | zero => rfl
  | succ n ih =>
    rw [cod, prd, h n (by omega), Nat.mul_add, Nat.mul_one, Nat.mul_comm (prd f n)]
    have := ih (fun q hq => h q (by omega)); omega
theorem prd_pow {f : Nat → Nat} : ∀ n, prd f n ≤ 2 ^ (sm n (fun q => (f q : Int))).toNat
  | 0 => Nat.le_refl _
  | n + 1 => by
    have ih := prd_pow (f := f) n
    have e : (sm (n + 1) (fun q => (f q : Int))).toNat = (sm n (fun q => (f q : Int))).toNat + f n := by
      rw [sm]
      have := tot_nonneg f n
      unfold tot at this
      omega
    rw [prd, e, Nat.pow_add]
    exact Nat.mul_le_mul ih (Nat.succ_le_of_lt Nat.lt_two_pow_self)
theorem prd_cong {f f' : Nat → Nat} {n : Nat} (h : ∀ q, q < n → f q = f' q) : prd f n = prd f' n := by
  induction n with
  | zero => rfl
  | succ n ih => rw [prd, prd, ih (fun q hq => h q (by omega)), h n (by omega)]
/-- all places together hold all trials -/
theorem tot_places {ti l : Nat → Nat} : ∀ s, s ≤ 64 → tot (lsf ti l) s = tot l (pcn ti s)
  | 0, _ => rfl
  | s + 1, hs => by
    have ih := tot_places (ti := ti) (l := l) s (by omega)
    have es : tot (lsf ti l) (s + 1) = tot (lsf ti l) s + (lsf ti l s : Int) := rfl
    rw [es, ih]
    by_cases c : ti s = 0
    · rw [pcn_f c]
      have : lsf ti l s = 0 := by unfold lsf; rw [if_neg (by omega)]
      rw [this]; simp
    · rw [pcn_t (by omega)]
      have : lsf ti l s = l (pcn ti s) := by unfold lsf; rw [if_pos ⟨by omega, by omega⟩]
      rw [this]; rfl
theorem lsf_full {ti : Nat → Nat} (hz : ∀ s, 64 ≤ s → ti s = 0) (s : Nat) : lsf ti (fun q => ti (plcf ti 64 q)) s = ti s := by
  unfold lsf
  by_cases c : s < 64 ∧ 0 < ti s
  · rw [if_pos c]; show ti (plcf ti 64 (pcn ti s)) = ti s; rw [plcf_1 c.1 c.2]
  · rw [if_neg c]
    rcases Nat.lt_or_ge s 64 with h | h
    · have : ¬ 0 < ti s := fun z => c ⟨h, z⟩
      omega
    · exact (hz s h).symm
theorem lsf_dcr {ti l : Nat → Nat} {q : Nat} (hq : q < pcn ti 64) (s : Nat) : lsf ti (dcr l q) s = dcr (lsf ti l) (plcf ti 64 q) s := by
  obtain ⟨h1, h2, h3⟩ := plcf_2 hq
  unfold lsf dcr
  dsimp only
  have hc : plcf ti 64 q < 64 ∧ 0 < ti (plcf ti 64 q) := ⟨h1, h2⟩
  by_cases e : s = plcf ti 64 q
  · subst e; rw [if_pos hc, if_pos h3, if_pos rfl, if_pos hc]
  · rw [if_neg e]
    by_cases c : s < 64 ∧ 0 < ti s
    · rw [if_pos c, if_pos c, if_neg]
      intro z
      exact e (by rw [← z, plcf_1 c.1 c.2])
    · rw [if_neg c, if_neg c]
