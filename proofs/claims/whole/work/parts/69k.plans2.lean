/-! PLANS: the first best one, how many are best -/
def mxs (S : Nat) (u : Nat → Nat) (s : Nat) : Prop := ∀ s', s' < S → u s' ≤ u s
noncomputable def Mxn (S : Nat) (u : Nat → Nat) : Int := sm S (fun s => ind (mxs S u s))
theorem mxs_flp {K : Nat} {u : Nat → Nat} {c s : Nat} (hc : c < 2 ^ K) : mxs (2 ^ K) (flp u c) s ↔ mxs (2 ^ K) u (s ^^^ c) := by
  constructor
  · intro h s' hs'
    have := h (s' ^^^ c) (xor_lt2 hs' hc)
    unfold flp at this
    rwa [xor_xor] at this
  · intro h s' hs'
    exact h (s' ^^^ c) (xor_lt2 hs' hc)
theorem Mxn_flp {K : Nat} {u : Nat → Nat} {c : Nat} (hc : c < 2 ^ K) : Mxn (2 ^ K) (flp u c) = Mxn (2 ^ K) u := by
  unfold Mxn
  rw [← sm_invol (τ := fun s => s ^^^ c) (fun s hs => xor_lt2 hs hc) (fun s _ => xor_xor s c) (fun s => ind (mxs (2 ^ K) u s))]
  exact sm_congr (fun s _ => ind_c (mxs_flp hc))
theorem mxs_ex (u : Nat → Nat) : ∀ {S : Nat}, 0 < S → ∃ s, s < S ∧ mxs S u s
  | 0, h => absurd h (Nat.lt_irrefl 0)
  | S + 1, _ => by
    by_cases e : S = 0
    · subst e; exact ⟨0, by omega, fun s' hs' => by rw [show s' = 0 by omega]; exact Nat.le_refl _⟩
    · obtain ⟨s, hs, h⟩ := mxs_ex u (S := S) (by omega)
      by_cases c : u S ≤ u s
      · exact ⟨s, by omega, fun s' hs' => by
          by_cases e2 : s' = S
          · subst e2; exact c
          · exact h s' (by omega)⟩
      · exact ⟨S, by omega, fun s' hs' => by
          by_cases e2 : s' = S
          · subst e2; exact Nat.le_refl _
          · have := h s' (by omega); omega⟩
theorem Mxn_b {S : Nat} (hS : 0 < S) (u : Nat → Nat) : 1 ≤ Mxn S u ∧ Mxn S u ≤ S := by
  obtain ⟨s, hs, h⟩ := mxs_ex u hS
  refine ⟨cnt_pos hs h, ?_⟩
  have : sm S (fun s => ind (mxs S u s)) ≤ sm S (fun _ => (1 : Int)) := by
    have h2 : 0 ≤ sm S (fun s => 1 - ind (mxs S u s)) := sm_nonneg _ _ (fun s _ => by have := (ind_01 (mxs S u s)).2; omega)
    rw [sm_sub] at h2; omega
  rw [sm_const] at this
  unfold Mxn; omega
/-- the flips of a PLAN, counted in two ways -/
theorem orbit {K : Nat} {B : (Nat → Nat) → Prop} (hB : ∀ u c, c < 2 ^ K → (B (flp u c) ↔ B u)) (a : Nat) (hBa : ∀ u, B u → Mxn (2 ^ K) u = (a : Int)) : ((2 ^ K : Nat) : Int) * cnt (10 ^ 2 ^ K) (fun x => B (dgp (2 ^ K) x) ∧ mxs (2 ^ K) (dgp (2 ^ K) x) 0) = (a : Int) * cnt (10 ^ 2 ^ K) (fun x => B (dgp (2 ^ K) x)) := by
  have e1 : (a : Int) * cnt (10 ^ 2 ^ K) (fun x => B (dgp (2 ^ K) x)) = sm (10 ^ 2 ^ K) (fun x => sm (2 ^ K) (fun s => ind (B (dgp (2 ^ K) x) ∧ mxs (2 ^ K) (dgp (2 ^ K) x) s))) := by
    unfold cnt
    rw [← sm_mul]
    refine sm_congr (fun x _ => ?_)
    by_cases h : B (dgp (2 ^ K) x)
    · rw [ind_t h, Int.mul_one, ← hBa _ h]
      exact sm_congr (fun s _ => ind_c ⟨fun z => ⟨h, z⟩, fun z => z.2⟩)
    · rw [ind_f h, Int.mul_zero, sm_zero (fun s _ => ind_f (fun z => h z.1))]
  rw [e1, sm_swap, ← sm_const]
  refine sm_congr (fun s hs => ?_)
  have := cnt_tau (K := K) hs (fun u => B u ∧ mxs (2 ^ K) u 0)
  unfold cnt at this ⊢
  rw [← this]
  refine sm_congr (fun x _ => ind_c ?_)
  dsimp only; rw [hB _ _ hs, mxs_flp hs, Nat.zero_xor]
theorem split_Mx {S : Nat} (hS : 0 < S) {X : Nat} {B : Nat → Prop} {f : Nat → Nat → Nat} : cnt X B = sm S (fun i => cnt X (fun x => B x ∧ Mxn S (f x) = ((i + 1 : Nat) : Int))) := by
  unfold cnt
  rw [sm_swap]
  refine sm_congr (fun x _ => ?_)
  obtain ⟨h1, h2⟩ := Mxn_b hS (f x)
  by_cases h : B x
  · rw [ind_t h, sm_single (k := (Mxn S (f x)).toNat - 1) (by omega) (fun i _ hne => ind_f (fun z => hne (by have := z.2; omega)))]
    rw [ind_t ⟨h, by omega⟩]
  · rw [ind_f h, sm_zero (fun i _ => ind_f (fun z => h z.1))]
theorem alk_Mx {S : Nat} {u : Nat → Nat} (h : mxs S u 0) (hS : 0 < S) : Mxn S u = (cn u (u 0) S : Int) := by
  rw [cn_sm]
  unfold Mxn
  refine sm_congr (fun s hs => ?_)
  by_cases c : u s = u 0
  · rw [if_pos c, ind_t (show mxs S u s from fun s' hs' => by rw [c]; exact h s' hs')]
  · rw [if_neg c, ind_f (fun z => c (Nat.le_antisymm (h s hs) (z 0 hS)))]
/-- lexicographic order -/
theorem lex_irr (u : Nat → Nat) : ¬ lexgt u u := fun ⟨_, _, h⟩ => Nat.lt_irrefl _ h
theorem lex_asym {u v : Nat → Nat} (h : lexgt u v) : ¬ lexgt v u := fun h2 => by
  obtain ⟨j, j1, j2⟩ := h
  obtain ⟨i, i1, i2⟩ := h2
  rcases Nat.lt_trichotomy i j with e | e | e
  · have := j1 i e; omega
  · subst e; omega
  · have := i1 j e; omega
theorem lex_tot {S : Nat} {u v : Nat → Nat} (hu : ∀ s, S ≤ s → u s = 0) (hv : ∀ s, S ≤ s → v s = 0) : u = v ∨ lexgt u v ∨ lexgt v u := by
  have key : ∀ n, (∀ s, s < n → u s = v s) ∨ lexgt u v ∨ lexgt v u := by
    intro n
    induction n with
    | zero => exact Or.inl (fun s hs => absurd hs (Nat.not_lt_zero _))
    | succ n ih =>
      rcases ih with h | h
      · rcases Nat.lt_trichotomy (u n) (v n) with e | e | e
        · exact Or.inr (Or.inr ⟨n, fun i hi => (h i hi).symm, e⟩)
        · refine Or.inl (fun s hs => ?_)
          by_cases c : s = n
          · subst c; exact e
          · exact h s (by omega)
        · exact Or.inr (Or.inl ⟨n, h, e⟩)
      · exact Or.inr h
  rcases key S with h | h
  · refine Or.inl (funext (fun s => ?_))
    rcases Nat.lt_or_ge s S with c | c
    · exact h s c
    · rw [hu s c, hv s c]
  · exact Or.inr h
theorem BP_uniq {S N : Nat} {W : (Nat → Nat) → Int} {u v : Nat → Nat} (hu : BP S N W u) (hv : BP S N W v) : u = v := by
  have e : W u = W v := Int.le_antisymm (hv.2.1 u hu.1) (hu.2.1 v hv.1)
  rcases lex_tot hu.1.2.1 hv.1.2.1 with h | h | h
  · exact h
  · exact absurd h (hv.2.2 u hu.1 e)
  · exact absurd h (hu.2.2 v hv.1 e.symm)
def RV (S N : Nat) (u : Nat → Nat) : Prop := vpl S N u ∧ mxs S u 0
/-- the first best of those whose SETTING 0 is tried most is the first best of all -/
theorem BP_of {K N : Nat} {W : (Nat → Nat) → Int} (hW : ∀ u c, c < 2 ^ K → W (flp u c) = W u) {u : Nat → Nat} (hu : RV (2 ^ K) N u) (h1 : ∀ v, RV (2 ^ K) N v → W v ≤ W u) (h2 : ∀ v, RV (2 ^ K) N v → W v = W u → ¬ lexgt v u) : BP (2 ^ K) N W u := by
  have hS := Nat.two_pow_pos K
  have turn : ∀ v, vpl (2 ^ K) N v → ∃ c, c < 2 ^ K ∧ RV (2 ^ K) N (flp v c) ∧ ∀ s, s < 2 ^ K → v s ≤ flp v c 0 := fun v hv => by
    obtain ⟨c, hc, hm⟩ := mxs_ex v hS
    refine ⟨c, hc, ⟨vpl_flp hv hc, (mxs_flp hc).2 (by rw [Nat.zero_xor]; exact hm)⟩, fun s hs => ?_⟩
    unfold flp; rw [Nat.zero_xor]; exact hm s hs
  refine ⟨hu.1, fun v hv => ?_, fun v hv e hl => ?_⟩
  · obtain ⟨c, hc, hr, _⟩ := turn v hv
    rw [← hW v c hc]; exact h1 _ hr
  · by_cases hm : mxs (2 ^ K) v 0
    · exact h2 v ⟨hv, hm⟩ e hl
    · obtain ⟨c, hc, hr, hge⟩ := turn v hv
      refine h2 (flp v c) hr (by rw [hW v c hc]; exact e) ⟨0, fun i hi => absurd hi (Nat.not_lt_zero _), ?_⟩
      obtain ⟨j, j1, j2⟩ := hl
      have h3 : u 0 ≤ v 0 := by
        rcases Nat.eq_zero_or_pos j with e2 | e2
        · subst e2; omega
        · rw [j1 0 e2]; exact Nat.le_refl _
      have h4 : v 0 < flp v c 0 := by
        rcases Nat.lt_or_ge (v 0) (flp v c 0) with h | h
        · exact h
        · exact absurd (fun s' hs' => Nat.le_trans (hge s' hs') h) hm
      omega
/-- what the class tells of the PLANS that it has looked at -/
def JX (S : Nat) (W : (Nat → Nat) → Int) (D : (Nat → Nat) → Prop) (gr : Int64) (tl fi : Nat → Int32) : Prop :=
  ((∀ u, ¬ D u) ∧ gr = -1 ∧ ∀ a, a ≤ S → tl a = 0) ∨ ∃ u, D u ∧ gr = lI (W u) ∧ (∀ v, D v → W v ≤ W u) ∧ (∀ v, D v → W v = W u → ¬ lexgt v u) ∧ (∀ s, s < 64 → fi s = nI (u s)) ∧ ∀ a, a ≤ S → tl a = iI (cnt (10 ^ S) (fun x => D (dgp S x) ∧ W (dgp S x) = W u ∧ cn (dgp S x) (dgp S x 0) S = a))
theorem JX_cong {S : Nat} {W : (Nat → Nat) → Int} {D D' : (Nat → Nat) → Prop} {gr : Int64} {tl fi : Nat → Int32} (h : ∀ u, D u ↔ D' u) (hj : JX S W D gr tl fi) : JX S W D' gr tl fi := by
  have e : D = D' := funext (fun u => propext (h u))
  subst e; exact hj
def JM (S : Nat) (W : (Nat → Nat) → Int) (D : (Nat → Nat) → Prop) (gr : Int64) (gs : Int32) (fi : Nat → Int32) : Prop :=
  ((∀ u, ¬ D u) ∧ gr = -1 ∧ gs = 0) ∨ ∃ u, D u ∧ gr = lI (W u) ∧ (∀ v, D v → W v ≤ W u) ∧ (∀ v, D v → W v = W u → ¬ lexgt v u) ∧ (∀ s, s < 64 → fi s = nI (u s)) ∧ gs = iI (cnt (10 ^ S) (fun x => D (dgp S x) ∧ W (dgp S x) = W u))
theorem JM_cong {S : Nat} {W : (Nat → Nat) → Int} {D D' : (Nat → Nat) → Prop} {gr : Int64} {gs : Int32} {fi : Nat → Int32} (h : ∀ u, D u ↔ D' u) (hj : JM S W D gr gs fi) : JM S W D' gr gs fi := by
  have e : D = D' := funext (fun u => propext (h u))
  subst e; exact hj
theorem eq_dgp {S : Nat} {u : Nat → Nat} (h9 : ∀ s, u s ≤ 9) (hz : ∀ s, S ≤ s → u s = 0) {x : Nat} (hx : x < 10 ^ S) : dgp S x = u ↔ x = enc u S := by
  constructor
  · intro e; rw [← e, enc_dgp hx]
  · intro e; rw [e, dgp_enc h9 hz]
/-- the class's judge -/
theorem wp_judge {S N : Nat} (hS : 1 ≤ S) (hS64 : S ≤ 64) {W : (Nat → Nat) → Int} (hWb : ∀ v, vpl S N v → 0 ≤ W v ∧ (W v).natAbs < 4611686018427387904) {D : (Nat → Nat) → Prop} (hD : ∀ v, D v → vpl S N v) {u : Nat → Nat} (hu : vpl S N u) (hnew : ¬ D u) (hlex : ∀ v, D v → lexgt v u) {gr : Int64} {tl fi times : Nat → Int32} (hj : JX S W D gr tl fi) (ht : ∀ s, s < 64 → times s = nI (u s)) {k : (Nat → Int32) → Int64 → (Nat → Int32) → Prop} (h : ∀ tl' gr' fi', JX S W (fun v => D v ∨ v = u) gr' tl' fi' → k tl' gr' fi') : wpX5_judge (nI S) times tl gr fi (lI (W u)) k := by
  obtain ⟨hw0, hwb⟩ := hWb u hu
  have hx0 := enc_lt hu.1 S
  have hcn : cn u (u 0) S ≤ S := cn_le _ _ _
  -- the count of those alike
  have J : ∀ (tl2 : Nat → Int32) (gr2 : Int64) (fi2 : Nat → Int32), (∀ tl', (∀ a, a ≤ S → tl' a = if a = cn u (u 0) S then tl2 a + 1 else tl2 a) → k tl' gr2 fi2) → wjX5_judge_47 (nI S) times k tl2 gr2 fi2 := by
    intro tl2 gr2 fi2 hk
    unfold wjX5_judge_47
    refine wloop_n (fun i st => st = (nI (cn u (u 0) i), nI i)) S rfl ?_ ?_
    · rintro i st again hi rfl hag
      have h9 := hu.1 i
      have h90 := hu.1 0
      rw [wbX5_judge_52]
      refine pk_le S i (fun z => absurd z (by omega)) (fun _ => ⟨vp_in_nI (by omega) (by omega), ?_⟩)
      rw [nI_clamp (by omega), ht i (by omega), ht 0 (by omega), nI_1, nI_1]
      refine pk_eq (u i) (u 0) (fun z => hag _ ?_) (fun z => hag _ ?_)
      · rw [cn, if_pos z]
      · rw [cn, if_neg z, show (0 : Int32) = nI 0 from rfl, nI_add]
    · rintro st again rfl
      rw [wbX5_judge_52, nI_clamp (by omega)]
      refine pk_le S S (fun _ => ⟨vp_in_nI (by omega) (by omega), vp_in_nI (by omega) (by omega), hk _ (fun a ha => ?_)⟩) (fun z => absurd z (by omega))
      by_cases e : a = cn u (u 0) S
      · subst e; rw [pk_us, if_pos rfl]
      · rw [pk_un e, if_neg e]
  unfold wpX5_judge
  rcases hj with ⟨h1, h2, h3⟩ | ⟨v, v1, v2, v3, v4, v5, v6⟩
  · -- the first one
    rw [h2, show (-1 : Int64) = lI (-1) from rfl, lI_le (by decide) (by omega), lI_le (by omega) (by decide)]
    refine ⟨fun _ => ⟨fun z => absurd z (by omega), fun _ => ?_⟩, fun z => absurd (by omega) z⟩
    refine J _ _ _ (fun tl' htl => h _ _ _ (Or.inr ⟨u, Or.inr rfl, rfl, fun v hv => ?_, fun v hv _ => ?_, ht, fun a ha => ?_⟩))
    · rcases hv with hv | hv
      · exact absurd hv (h1 v)
      · rw [hv]; exact Int.le_refl _
    · rcases hv with hv | hv
      · exact absurd hv (h1 v)
      · rw [hv]; exact lex_irr u
    · rw [htl a ha]
      by_cases e : a = cn u (u 0) S
      · rw [if_pos e, cnt_add1 (P := fun _ => False) hx0 (fun z => z) ⟨Or.inr (dgp_enc hu.1 hu.2.1), by rw [dgp_enc hu.1 hu.2.1], by rw [dgp_enc hu.1 hu.2.1]; exact e.symm⟩ (fun x hx hne => ⟨fun z => z.elim, fun z => ?_⟩), cnt_none (fun x _ z => z)]
        · rfl
        · rcases z.1 with z | z
          · exact h1 _ z
          · exact hne ((eq_dgp hu.1 hu.2.1 hx).1 z)
      · rw [if_neg e, cnt_none (fun x hx z => ?_)]
        · rfl
        · rcases z.1 with z1 | z1
          · exact h1 _ z1
          · exact e (by rw [← z.2.2, z1])
  · obtain ⟨hv0, hvb⟩ := hWb v (hD v v1)
    rw [v2, lI_le (by omega) (by omega), lI_le (by omega) (by omega)]
    refine ⟨fun za => ⟨fun zb => ?_, fun zb => ?_⟩, fun za => ?_⟩
    · have ew : W u = W v := Int.le_antisymm zb za
      refine J _ _ _ (fun tl' htl => h _ _ _ (Or.inr ⟨v, Or.inl v1, rfl, fun v' hv' => ?_, fun v' hv' e => ?_, v5, fun a ha => ?_⟩))
      · rcases hv' with hv' | hv'
        · exact v3 v' hv'
        · rw [hv', ew]; exact Int.le_refl _
      · rcases hv' with hv' | hv'
        · exact v4 v' hv' e
        · rw [hv']; exact lex_asym (hlex v v1)
      · rw [htl a ha, v6 a ha]
        by_cases e : a = cn u (u 0) S
        · rw [if_pos e, cnt_add1 (P := fun x => D (dgp S x) ∧ W (dgp S x) = W v ∧ cn (dgp S x) (dgp S x 0) S = a) (Q := fun x => (D (dgp S x) ∨ dgp S x = u) ∧ W (dgp S x) = W v ∧ cn (dgp S x) (dgp S x 0) S = a) hx0 (fun z => hnew (by have := z.1; rwa [dgp_enc hu.1 hu.2.1] at this)) ⟨Or.inr (dgp_enc hu.1 hu.2.1), by rw [dgp_enc hu.1 hu.2.1]; exact ew, by rw [dgp_enc hu.1 hu.2.1]; exact e.symm⟩ (fun x hx hne => ⟨fun z => ⟨Or.inl z.1, z.2⟩, fun z => ⟨?_, z.2⟩⟩)]
          · rw [← iI_add]; rfl
          · rcases z.1 with z1 | z1
            · exact z1
            · exact absurd ((eq_dgp hu.1 hu.2.1 hx).1 z1) hne
        · rw [if_neg e]
          congr 1
          refine cnt_cong (fun x hx => ⟨fun z => ⟨Or.inl z.1, z.2⟩, fun z => ⟨?_, z.2⟩⟩)
          rcases z.1 with z1 | z1
          · exact z1
          · exact absurd (by rw [← z.2.2, z1]) e
    · have hlt : W v < W u := by omega
      refine J _ _ _ (fun tl' htl => h _ _ _ (Or.inr ⟨u, Or.inr rfl, rfl, fun v' hv' => ?_, fun v' hv' e => ?_, ht, fun a ha => ?_⟩))
      · rcases hv' with hv' | hv'
        · have := v3 v' hv'; omega
        · rw [hv']; exact Int.le_refl _
      · rcases hv' with hv' | hv'
        · have := v3 v' hv'; omega
        · rw [hv']; exact lex_irr u
      · rw [htl a ha]
        by_cases e : a = cn u (u 0) S
        · rw [if_pos e, cnt_add1 (P := fun _ => False) hx0 (fun z => z) ⟨Or.inr (dgp_enc hu.1 hu.2.1), by rw [dgp_enc hu.1 hu.2.1], by rw [dgp_enc hu.1 hu.2.1]; exact e.symm⟩ (fun x hx hne => ⟨fun z => z.elim, fun z => ?_⟩), cnt_none (fun x _ z => z)]
          · rfl
          · rcases z.1 with z1 | z1
            · have := v3 _ z1
              have := z.2.1
              omega
            · exact hne ((eq_dgp hu.1 hu.2.1 hx).1 z1)
        · rw [if_neg e, cnt_none (fun x hx z => ?_)]
          · rfl
          · rcases z.1 with z1 | z1
            · have := v3 _ z1
              have := z.2.1
              omega
            · exact e (by rw [← z.2.2, z1])
    · have hlt : W u < W v := by omega
      refine h _ _ _ (Or.inr ⟨v, Or.inl v1, rfl, fun v' hv' => ?_, fun v' hv' e => ?_, v5, fun a ha => ?_⟩)
      · rcases hv' with hv' | hv'
        · exact v3 v' hv'
        · rw [hv']; omega
      · rcases hv' with hv' | hv'
        · exact v4 v' hv' e
        · rw [hv'] at e; omega
      · rw [v6 a ha]
        congr 1
        refine cnt_cong (fun x hx => ⟨fun z => ⟨Or.inl z.1, z.2⟩, fun z => ⟨?_, z.2⟩⟩)
        rcases z.1 with z1 | z1
        · exact z1
        · have := z.2.1
          rw [z1] at this; omega
