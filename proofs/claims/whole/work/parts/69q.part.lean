/-! parts: what a set of products is, greedily -/
theorem sm_le {f g : Nat → Int} : ∀ {n : Nat}, (∀ i, i < n → f i ≤ g i) → sm n f ≤ sm n g
  | 0, _ => Int.le_refl _
  | n + 1, h => by
    have h1 := sm_le (n := n) (fun i hi => h i (by omega))
    have h2 := h n (by omega)
    rw [sm, sm]; omega
theorem sm_le_eq : ∀ {n : Nat} {f g : Nat → Int}, (∀ i, i < n → f i ≤ g i) → sm n f = sm n g → ∀ i, i < n → f i = g i
  | 0, _, _, _, _, i, hi => absurd hi (Nat.not_lt_zero _)
  | n + 1, f, g, h, e, i, hi => by
    rw [sm, sm] at e
    have h1 : sm n f ≤ sm n g := sm_le (fun j hj => h j (by omega))
    have h2 := h n (by omega)
    by_cases c : i = n
    · subst c; omega
    · exact sm_le_eq (n := n) (fun j hj => h j (by omega)) (by omega) i (by omega)
/-- k words, none of them a product of those ahead -/
def TW (k : Nat) (b : Nat → Nat) : Prop := (∀ i, i < k → b i ≠ 0) ∧ (∀ i, k ≤ i → b i = 0) ∧ ∀ m, m < k → ¬ sp b 4 m (b m)
theorem TW_IN {k : Nat} {b : Nat → Nat} (h : TW k b) : IN b := fun m _ h0 => by
  refine h.2.2 m (Classical.byContradiction (fun z => h0 (h.2.1 m (by omega))))
theorem TW_pn {k : Nat} {b : Nat → Nat} (h : TW k b) (hk : k ≤ 4) : ∀ m, m ≤ k → pn b 4 m = m
  | 0, _ => rfl
  | m + 1, hm => by
    rw [pn, TW_pn h hk m (by omega), if_pos ⟨by omega, h.1 m (by omega)⟩]
theorem TW_pn4 {k : Nat} {b : Nat → Nat} (h : TW k b) (hk : k ≤ 4) : ∀ d, pn b 4 (k + d) = k
  | 0 => TW_pn h hk k (Nat.le_refl _)
  | d + 1 => by
    rw [show k + (d + 1) = (k + d) + 1 by omega, pn, TW_pn4 h hk d, if_neg (fun z => z.2 (h.2.1 _ (by omega)))]
    rfl
theorem sp_top {k : Nat} {b : Nat → Nat} (hz : ∀ i, k ≤ i → b i = 0) {t : Nat} : ∀ d, sp b 4 (k + d) t → sp b 4 k t
  | 0, h => h
  | d + 1, h => by
    rcases h with h | ⟨_, h2, _⟩
    · exact sp_top hz d h
    · exact absurd (hz (k + d) (Nat.le_add_right k d)) h2
theorem sp_4 {k : Nat} {b : Nat → Nat} (hz : ∀ i, k ≤ i → b i = 0) (hk : k ≤ 4) {t : Nat} : sp b 4 4 t ↔ sp b 4 k t :=
  ⟨fun h => sp_top hz (4 - k) (by rw [show k + (4 - k) = 4 by omega]; exact h), sp_up hk⟩
theorem span_cnt {K k : Nat} {b : Nat → Nat} (h : TW k b) (hk : k ≤ 4) (hb : ∀ i, b i < 2 ^ K) : sm (2 ^ K) (fun t => ind (sp b 4 k t)) = ((2 ^ k : Nat) : Int) := by
  have e := pf_sum hb (TW_IN h) k hk (fun _ => 1)
  rw [TW_pn h hk k (Nat.le_refl _)] at e
  rw [sm_congr (f := fun t => ind (sp b 4 k t)) (g := fun t => ind (sp b 4 k t) * (fun _ => (1 : Int)) t) (fun t _ => by simp), ← e]
  have : ∀ n : Nat, sm n (fun _ => (1 : Int)) = (n : Int) := fun n => by
    induction n with
    | zero => rfl
    | succ n ih => rw [sm, ih]; omega
  exact this _
theorem ind_le {P Q : Prop} (h : P → Q) : ind P ≤ ind Q := by
  by_cases c : P
  · rw [ind_t c, ind_t (h c)]; exact Int.le_refl _
  · rw [ind_f c]; exact (ind_01 Q).1
/-- a set closed under products -/
def CLO (M : Nat → Prop) : Prop := M 0 ∧ ∀ a b, M a → M b → M (a ^^^ b)
theorem CLO_sp {M : Nat → Prop} (hM : CLO M) {b : Nat → Nat} : ∀ {c t : Nat}, (∀ i, i < c → M (b i)) → sp b 4 c t → M t
  | 0, t, _, h => by
    have e : t = 0 := h
    rw [e]; exact hM.1
  | c + 1, t, hb, h => by
    rcases h with h | ⟨_, _, h⟩
    · exact CLO_sp hM (c := c) (fun i hi => hb i (by omega)) h
    · have := hM.2 _ _ (CLO_sp hM (c := c) (fun i hi => hb i (by omega)) h) (hb c (by omega))
      rwa [xor_xor] at this
/-- what was found greedily below X -/
def GI (M : Nat → Prop) (X c : Nat) (b : Nat → Nat) : Prop := TW c b ∧ (∀ i, i < c → b i < X ∧ M (b i)) ∧ (∀ y, y < X → M y → sp b 4 c y) ∧ (∀ j, j < c → ∀ y, y < b j → M y → sp b 4 j y) ∧ ∀ i j, i < j → j < c → b i < b j
theorem GI_0 (M : Nat → Prop) : GI M 0 0 (fun _ => 0) := ⟨⟨fun i hi => absurd hi (Nat.not_lt_zero _), fun _ _ => rfl, fun i hi => absurd hi (Nat.not_lt_zero _)⟩, fun i hi => absurd hi (Nat.not_lt_zero _), fun i hi => absurd hi (Nat.not_lt_zero _), fun i hi => absurd hi (Nat.not_lt_zero _), fun i j _ hi => absurd hi (Nat.not_lt_zero _)⟩
theorem GI_skip {M : Nat → Prop} {X c : Nat} {b : Nat → Nat} (h : GI M X c b) (hs : M X → sp b 4 c X) : GI M (X + 1) c b := by
  obtain ⟨h1, h2, h3, h4, h5⟩ := h
  refine ⟨h1, fun i hi => ⟨by have := (h2 i hi).1; omega, (h2 i hi).2⟩, fun y hy hm => ?_, h4, h5⟩
  by_cases e : y = X
  · subst e; exact hs hm
  · exact h3 y (by omega) hm
def apd (b : Nat → Nat) (c X : Nat) : Nat → Nat := fun i => if i = c then X else b i
theorem apd_s (b : Nat → Nat) (c X : Nat) : apd b c X c = X := if_pos rfl
theorem apd_n {b : Nat → Nat} {c X i : Nat} (h : i ≠ c) : apd b c X i = b i := if_neg h
theorem sp_apd {b : Nat → Nat} {c X m t : Nat} (hm : m ≤ c) : sp (apd b c X) 4 m t ↔ sp b 4 m t :=
  ⟨sp_cong (fun k hk => apd_n (by omega)), sp_cong (fun k hk => (apd_n (by omega)).symm)⟩
theorem GI_add {M : Nat → Prop} {X c : Nat} {b : Nat → Nat} (h : GI M X c b) (hc : c < 4) (hm : M X) (hs : ¬ sp b 4 c X) : GI M (X + 1) (c + 1) (apd b c X) := by
  obtain ⟨⟨a1, a2, a3⟩, h2, h3, h4, h5⟩ := h
  have hX : X ≠ 0 := fun e => hs (by rw [e]; exact sp_zero c)
  refine ⟨⟨fun i hi => ?_, fun i hi => ?_, fun m hmm => ?_⟩, fun i hi => ?_, fun y hy hmy => ?_, fun j hj y hy hmy => ?_, fun i j hij hj => ?_⟩
  · by_cases e : i = c
    · subst e; rw [apd_s]; exact hX
    · rw [apd_n e]; exact a1 i (by omega)
  · rw [apd_n (by omega)]; exact a2 i (by omega)
  · rw [sp_apd (by omega)]
    by_cases e : m = c
    · subst e; rw [apd_s]; exact hs
    · rw [apd_n e]; exact a3 m (by omega)
  · by_cases e : i = c
    · subst e; rw [apd_s]; exact ⟨by omega, hm⟩
    · rw [apd_n e]; have := h2 i (by omega); exact ⟨by omega, this.2⟩
  · by_cases e : y = X
    · subst e
      refine Or.inr ⟨by omega, by rw [apd_s]; exact hX, ?_⟩
      rw [apd_s, Nat.xor_self]; exact sp_zero c
    · exact Or.inl ((sp_apd (Nat.le_refl c)).2 (h3 y (by omega) hmy))
  · rw [sp_apd (by omega)]
    by_cases e : j = c
    · subst e; rw [apd_s] at hy; exact h3 y hy hmy
    · rw [apd_n e] at hy; exact h4 j (by omega) y hy hmy
  · rw [apd_n (show i ≠ c by omega)]
    by_cases e : j = c
    · subst e; rw [apd_s]; exact (h2 i (by omega)).1
    · rw [apd_n e]; exact h5 i j hij (by omega)
/-- as many as the set needs, no more -/
theorem GI_le {K k : Nat} {v : Nat → Nat} (hv : TW k v) (hk : k ≤ 4) (hvb : ∀ i, v i < 2 ^ K) {X c : Nat} {b : Nat → Nat} (h : GI (sp v 4 4) X c b) (hc : c ≤ 4) (hX : X ≤ 2 ^ K) : c ≤ k ∧ (c = k → ∀ t, sp v 4 4 t → sp b 4 c t) := by
  have hbb : ∀ i, b i < 2 ^ K := fun i => by
    rcases Nat.lt_or_ge i c with hi | hi
    · have := (h.2.1 i hi).1; omega
    · rw [h.1.2.1 i hi]; exact Nat.two_pow_pos K
  have c1 := span_cnt h.1 hc hbb
  have c2 := span_cnt hv hk hvb
  have hM : CLO (sp v 4 4) := ⟨sp_zero 4, fun a b ha hb => sp_xor ha hb⟩
  have sub : ∀ t, sp b 4 c t → sp v 4 k t := fun t ht => (sp_4 hv.2.1 hk).1 (CLO_sp hM (fun i hi => (h.2.1 i hi).2) ht)
  have le : sm (2 ^ K) (fun t => ind (sp b 4 c t)) ≤ sm (2 ^ K) (fun t => ind (sp v 4 k t)) := sm_le (fun t _ => ind_le (sub t))
  rw [c1, c2] at le
  have hck : c ≤ k := by
    rcases Nat.lt_or_ge k c with z | z
    · have := Nat.pow_lt_pow_right (a := 2) (by omega) z; omega
    · exact z
  refine ⟨hck, fun e t ht => ?_⟩
  subst e
  have h1 := (sp_4 hv.2.1 hk).1 ht
  have h2 := sm_le_eq (fun t _ => ind_le (sub t)) (c1.trans c2.symm) t (sp_lt hvb h1)
  exact Classical.byContradiction (fun z => by rw [ind_f z, ind_t h1] at h2; exact absurd h2 (by decide))
theorem GI_all {K k : Nat} {v : Nat → Nat} (hv : TW k v) (hk : k ≤ 4) (hvb : ∀ i, v i < 2 ^ K) {c : Nat} {b : Nat → Nat} (h : GI (sp v 4 4) (2 ^ K) c b) (hc : c ≤ 4) : c = k ∧ ∀ t, sp v 4 4 t ↔ sp b 4 4 t := by
  have hM : CLO (sp v 4 4) := ⟨sp_zero 4, fun a b ha hb => sp_xor ha hb⟩
  have hbb : ∀ i, b i < 2 ^ K := fun i => by
    rcases Nat.lt_or_ge i c with hi | hi
    · exact (h.2.1 i hi).1
    · rw [h.1.2.1 i hi]; exact Nat.two_pow_pos K
  have eq : ∀ t, sp v 4 4 t ↔ sp b 4 4 t := fun t => by
    rw [sp_4 h.1.2.1 hc]
    exact ⟨fun ht => h.2.2.1 t (sp_lt hvb ht) ht, fun ht => CLO_sp hM (fun i hi => (h.2.1 i hi).2) ht⟩
  refine ⟨?_, eq⟩
  have c1 := span_cnt h.1 hc hbb
  have c2 := span_cnt hv hk hvb
  rw [sm_congr (f := fun t => ind (sp b 4 c t)) (g := fun t => ind (sp v 4 k t)) (fun t _ => ind_c (by rw [← sp_4 h.1.2.1 hc, ← sp_4 hv.2.1 hk]; exact (eq t).symm)), c2] at c1
  have e : 2 ^ k = 2 ^ c := by omega
  rcases Nat.lt_trichotomy c k with z | z | z
  · have := Nat.pow_lt_pow_right (a := 2) (by omega) z; omega
  · exact z
  · have := Nat.pow_lt_pow_right (a := 2) (by omega) z; omega
theorem GI_ex {K k : Nat} {v : Nat → Nat} (hv : TW k v) (hk : k ≤ 4) (hvb : ∀ i, v i < 2 ^ K) : ∀ X, X ≤ 2 ^ K → ∃ c b, c ≤ 4 ∧ GI (sp v 4 4) X c b
  | 0, _ => ⟨0, _, by omega, GI_0 _⟩
  | X + 1, hX => by
    obtain ⟨c, b, hc, h⟩ := GI_ex hv hk hvb X (by omega)
    obtain ⟨hck, hfull⟩ := GI_le hv hk hvb h hc (by omega)
    by_cases e : sp v 4 4 X ∧ ¬ sp b 4 c X
    · have : c ≠ k := fun z => e.2 (hfull z X e.1)
      exact ⟨c + 1, _, by omega, GI_add h (by omega) e.1 e.2⟩
    · exact ⟨c, b, hc, GI_skip h (fun hm => Classical.byContradiction (fun z => e ⟨hm, z⟩))⟩
/-! leading FACTORS -/
def hbf (x : Nat) : Nat → Nat
  | 0 => 0
  | i + 1 => if x / 2 ^ i % 2 = 0 then hbf x i else 2 ^ i
def hb (x : Nat) : Nat := hbf x 6
theorem hb_1 : ∀ x, x < 64 → ∀ y, y < 64 → y ≠ 0 → x &&& hb y ≠ 0 → x ^^^ y < x := by decide +kernel
theorem hb_2 : ∀ x, x < 64 → ∀ y, y < 64 → y < x → y ≠ 0 → x &&& hb y = 0 → 2 * hb y ≤ x := by decide +kernel
theorem hb_3 : ∀ m, m < 64 → ∀ x, x < 64 → 2 * hb m ≤ x → x ≠ 0 → hb (m ||| hb x) = hb x := by decide +kernel
theorem hb_4 : ∀ x, x < 64 → x ≠ 0 → x < 2 * hb x := by decide +kernel
theorem hb_5 : ∀ x, x < 64 → x ≠ 0 → ∃ e, e < 7 ∧ 2 * hb x = 2 ^ e := by decide +kernel
theorem hb_6 : ∀ x, x < 64 → hb x < 64 := by decide +kernel
def lm (u : Nat → Nat) : Nat → Nat
  | 0 => 0
  | a + 1 => lm u a ||| hb (u a)
theorem lm_lt {u : Nat → Nat} (h : ∀ i, u i < 64) : ∀ a, lm u a < 64
  | 0 => (by decide : (0 : Nat) < 64)
  | a + 1 => Nat.or_lt_two_pow (n := 6) (lm_lt h a) (hb_6 _ (h a))
theorem lm_cong {u v : Nat → Nat} : ∀ {a : Nat}, (∀ i, i < a → u i = v i) → lm u a = lm v a
  | 0, _ => rfl
  | a + 1, h => by rw [lm, lm, lm_cong (a := a) (fun i hi => h i (by omega)), h a (by omega)]
/-- the words as the class meets them -/
def RB (S k : Nat) (u : Nat → Nat) : Prop := (∀ a, a < k → 1 ≤ u a ∧ 2 * hb (lm u a) ≤ u a ∧ u a < S ∧ u a &&& lm u a = 0) ∧ ∀ i, k ≤ i → u i = 0
theorem RB_lm {S k : Nat} (hS : S ≤ 64) {u : Nat → Nat} (h : RB S k u) {a : Nat} (ha : a < k) : hb (lm u (a + 1)) = hb (u a) := by
  obtain ⟨h1, h2, h3, h4⟩ := h.1 a ha
  have hu : ∀ i, u i < 64 := fun i => by
    rcases Nat.lt_or_ge i k with hi | hi
    · have := (h.1 i hi).2.2.1; omega
    · rw [h.2 i hi]; decide
  exact hb_3 _ (lm_lt hu a) _ (by omega) h2 (by omega)
theorem RB_lt {S k : Nat} (hS : S ≤ 64) {u : Nat → Nat} (h : RB S k u) : ∀ i, u i < 64 := fun i => by
  rcases Nat.lt_or_ge i k with hi | hi
  · have := (h.1 i hi).2.2.1; omega
  · rw [h.2 i hi]; decide
theorem RB_b {S k : Nat} (hS : S ≤ 64) {u : Nat → Nat} (h : RB S k u) : ∀ {a : Nat}, a < k → ∀ {t : Nat}, sp u 4 (a + 1) t → t < 2 * hb (u a)
  | 0, ha, t, ht => by
    have hu := RB_lt hS h
    have h0 := hb_4 _ (hu 0) (by have := (h.1 0 ha).1; omega)
    rcases ht with ht | ⟨_, _, ht⟩
    · have e : t = 0 := ht
      omega
    · have e : t ^^^ u 0 = 0 := ht
      have : t = u 0 := by rw [← xor_xor t (u 0), e, Nat.zero_xor]
      omega
  | a + 1, ha, t, ht => by
    have hu := RB_lt hS h
    have h1 := hb_4 _ (hu (a + 1)) (by have := (h.1 (a + 1) ha).1; omega)
    have h2 := (h.1 (a + 1) ha).2.1
    rw [RB_lm hS h (by omega)] at h2
    obtain ⟨e, he, e2⟩ := hb_5 _ (hu (a + 1)) (by have := (h.1 (a + 1) ha).1; omega)
    rcases ht with ht | ⟨_, _, ht⟩
    · have := RB_b hS h (a := a) (by omega) ht; omega
    · have h3 := RB_b hS h (a := a) (by omega) ht
      rw [e2] at h1 ⊢
      have := Nat.xor_lt_two_pow (n := e) (show t ^^^ u (a + 1) < 2 ^ e by omega) h1
      rwa [xor_xor] at this
theorem RB_TW {S k : Nat} (hS : S ≤ 64) {u : Nat → Nat} (h : RB S k u) : TW k u ∧ ∀ i, i + 1 < k → u i < u (i + 1) := by
  have hu := RB_lt hS h
  refine ⟨⟨fun i hi => by have := (h.1 i hi).1; omega, h.2, fun m hm hs => ?_⟩, fun i hi => ?_⟩
  · cases m with
    | zero => have e : u 0 = 0 := hs
              have := (h.1 0 hm).1; omega
    | succ a =>
      have h1 := RB_b hS h (a := a) (by omega) hs
      have h2 := (h.1 (a + 1) hm).2.1
      rw [RB_lm hS h (by omega)] at h2
      omega
  · have h1 := hb_4 _ (hu i) (by have := (h.1 i (by omega)).1; omega)
    have h2 := (h.1 (i + 1) hi).2.1
    rw [RB_lm hS h (by omega)] at h2
    omega
theorem and_or_0 {a b c : Nat} (h1 : a &&& b = 0) (h2 : a &&& c = 0) : a &&& (b ||| c) = 0 := by
  rw [Nat.and_or_distrib_left, h1, h2]; rfl
/-- greedy words are met by the class -/
theorem GI_RB {S : Nat} (hS : S ≤ 64) {M : Nat → Prop} (hM : CLO M) {c : Nat} {b : Nat → Nat} (h : GI M S c b) : RB S c b := by
  obtain ⟨⟨a1, a2, a3⟩, h2, h3, h4, h5⟩ := h
  have hb64 : ∀ i, b i < 64 := fun i => by
    rcases Nat.lt_or_ge i c with hi | hi
    · have := (h2 i hi).1; omega
    · rw [a2 i hi]; decide
  have no : ∀ i j, i < j → j < c → b j &&& hb (b i) = 0 := fun i j hij hj => Classical.byContradiction (fun z => by
    have l := hb_1 _ (hb64 j) _ (hb64 i) (a1 i (by omega)) z
    have m := h4 j hj _ l (hM.2 _ _ (h2 j hj).2 (h2 i (by omega)).2)
    refine a3 j hj ?_
    have bi : sp b 4 j (b i) := h4 j hj _ (h5 i j hij hj) (h2 i (by omega)).2
    have := sp_xor m bi
    rwa [xor_xor] at this)
  have nol : ∀ j, j < c → ∀ a, a ≤ j → b j &&& lm b a = 0 := fun j hj a => by
    induction a with
    | zero => intro _; rw [lm]; exact Nat.and_zero _
    | succ a ih => intro ha; rw [lm]; exact and_or_0 (ih (by omega)) (no a j (by omega) hj)
  have main : ∀ a, a < c → 2 * hb (lm b a) ≤ b a ∧ hb (lm b (a + 1)) = hb (b a) := fun a => by
    induction a with
    | zero =>
      intro ha
      have hl0 : 2 * hb (lm b 0) ≤ b 0 := by rw [show lm b 0 = 0 from rfl, show hb 0 = 0 by decide]; omega
      exact ⟨hl0, hb_3 _ (show (0 : Nat) < 64 by decide) _ (hb64 0) hl0 (a1 0 ha)⟩
    | succ a ih =>
      intro ha
      have e := (ih (by omega)).2
      have l : 2 * hb (lm b (a + 1)) ≤ b (a + 1) := by
        rw [e]; exact hb_2 _ (hb64 _) _ (hb64 _) (h5 a (a + 1) (by omega) ha) (a1 a (by omega)) (no a (a + 1) (by omega) ha)
      exact ⟨l, hb_3 _ (lm_lt hb64 _) _ (hb64 _) l (a1 _ ha)⟩
  exact ⟨fun a ha => ⟨by have := a1 a ha; omega, (main a ha).1, (h2 a ha).1, nol a ha a (Nat.le_refl _)⟩, a2⟩
