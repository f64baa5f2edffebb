/-! parts: rows and the better of two -/
theorem q16_sum {f : Nat → Nat} (hf : ∀ j, pc (f j) ≤ 6) : ∀ N, nsum (fun j => q16 (f j)) N = cn (fun j => pc (f j)) 0 N * 16777216 + cn (fun j => pc (f j)) 1 N * 1048576 + cn (fun j => pc (f j)) 2 N * 65536 + cn (fun j => pc (f j)) 3 N * 4096 + cn (fun j => pc (f j)) 4 N * 256 + cn (fun j => pc (f j)) 5 N * 16 + cn (fun j => pc (f j)) 6 N ∧ cn (fun j => pc (f j)) 0 N + cn (fun j => pc (f j)) 1 N + cn (fun j => pc (f j)) 2 N + cn (fun j => pc (f j)) 3 N + cn (fun j => pc (f j)) 4 N + cn (fun j => pc (f j)) 5 N + cn (fun j => pc (f j)) 6 N = N
  | 0 => by simp [nsum, cn]
  | N + 1 => by
    obtain ⟨h1, h2⟩ := q16_sum hf N
    have h3 := hf N
    have ec : ∀ w, cn (fun j => pc (f j)) w (N + 1) = cn (fun j => pc (f j)) w N + (if pc (f N) = w then 1 else 0) := fun w => by rw [cn]
    have en : nsum (fun j => q16 (f j)) (N + 1) = nsum (fun j => q16 (f j)) N + 16 ^ (6 - pc (f N)) := rfl
    rw [en, h1, ec 0, ec 1, ec 2, ec 3, ec 4, ec 5, ec 6]
    have c : pc (f N) = 0 ∨ pc (f N) = 1 ∨ pc (f N) = 2 ∨ pc (f N) = 3 ∨ pc (f N) = 4 ∨ pc (f N) = 5 ∨ pc (f N) = 6 := by omega
    generalize cn (fun j => pc (f j)) 0 N = c0 at *
    generalize cn (fun j => pc (f j)) 1 N = c1 at *
    generalize cn (fun j => pc (f j)) 2 N = c2 at *
    generalize cn (fun j => pc (f j)) 3 N = c3 at *
    generalize cn (fun j => pc (f j)) 4 N = c4 at *
    generalize cn (fun j => pc (f j)) 5 N = c5 at *
    generalize cn (fun j => pc (f j)) 6 N = c6 at *
    rcases c with c | c | c | c | c | c | c <;> rw [c] <;> simp <;> omega
def ROW (k : Nat) (v : Nat → Nat) (w : Nat) : Nat := cn (fun j => pc (pf v 4 k j)) w (2 ^ k)
theorem nsum_split (f : Nat → Nat) (a : Nat) : ∀ b, nsum f (a + b) = nsum f a + nsum (fun j => f (a + j)) b
  | 0 => rfl
  | b + 1 => by rw [show a + (b + 1) = (a + b) + 1 by omega, nsum, nsum_split f a b, nsum]; omega
theorem rwn_R0 {k : Nat} {v : Nat → Nat} (hv : TW k v) (hk : k ≤ 4) : ∀ a, a ≤ k → rwn v a + 16777216 = nsum (fun j => q16 (pf v 4 a j)) (2 ^ a)
  | 0, _ => by simp [rwn, nsum, q16, pf, show pc 0 = 0 by decide]
  | a + 1, ha => by
    have ih := rwn_R0 hv hk a (by omega)
    have e1 := TW_pn hv hk a (by omega)
    have ef : ∀ j, pf v 4 (a + 1) j = if j < 2 ^ a then pf v 4 a j else pf v 4 a (j - 2 ^ a) ^^^ v a := fun j => by
      rw [pf, e1, if_pos ⟨by omega, hv.1 a (by omega)⟩]
    rw [rwn, Nat.pow_succ, Nat.mul_two, nsum_split]
    rw [nsum_congr (f := fun j => q16 (pf v 4 (a + 1) j)) (g := fun j => q16 (pf v 4 a j)) (fun j hj => by rw [ef, if_pos hj])]
    rw [nsum_congr (f := fun j => q16 (pf v 4 (a + 1) (2 ^ a + j))) (g := fun j => q16 (pf v 4 a j ^^^ v a)) (fun j hj => by rw [ef, if_neg (by omega), Nat.add_sub_cancel_left])]
    omega
theorem pc_0 : ∀ t, t < 64 → pc t = 0 → t = 0 := by decide +kernel
theorem ROW_sp {K k : Nat} {v : Nat → Nat} (hv : TW k v) (hk : k ≤ 4) (hvb : ∀ i, v i < 2 ^ K) (w : Nat) : (ROW k v w : Int) = sm (2 ^ K) (fun t => ind (sp v 4 k t) * (if pc t = w then 1 else 0)) := by
  unfold ROW
  have e := pf_sum hvb (TW_IN hv) k hk (fun t => if pc t = w then 1 else 0)
  rw [TW_pn hv hk k (Nat.le_refl _)] at e
  rw [cn_sm, ← e]
theorem ROW_0 {K k : Nat} (hK : K ≤ 6) {v : Nat → Nat} (hv : TW k v) (hk : k ≤ 4) (hvb : ∀ i, v i < 2 ^ K) : ROW k v 0 = 1 := by
  have h64 := p64 hK
  have e := ROW_sp hv hk hvb 0
  rw [sm_single (n := 2 ^ K) (k := 0) (Nat.two_pow_pos K) (fun t ht hne => by rw [if_neg (fun z => hne (pc_0 t (by omega) z))]; simp), ind_t (sp_zero k), if_pos (show pc 0 = 0 by decide)] at e
  omega
theorem ROW_eq {K k : Nat} {v u : Nat → Nat} (hv : TW k v) (hu : TW k u) (hk : k ≤ 4) (hvb : ∀ i, v i < 2 ^ K) (hub : ∀ i, u i < 2 ^ K) (h : ∀ t, sp v 4 4 t ↔ sp u 4 4 t) (w : Nat) : ROW k v w = ROW k u w := by
  have e1 := ROW_sp hv hk hvb w
  have e2 := ROW_sp hu hk hub w
  rw [sm_congr (g := fun t => ind (sp u 4 k t) * (if pc t = w then 1 else 0)) (fun t _ => by rw [ind_c (show sp v 4 k t ↔ sp u 4 k t by rw [← sp_4 hv.2.1 hk, ← sp_4 hu.2.1 hk]; exact h t)]), ← e2] at e1
  omega
theorem rwn_row {K k : Nat} (hK : K ≤ 6) {v : Nat → Nat} (hv : TW k v) (hk : k ≤ 4) (hvb : ∀ i, v i < 2 ^ K) : rwn v k = ROW k v 1 * 1048576 + ROW k v 2 * 65536 + ROW k v 3 * 4096 + ROW k v 4 * 256 + ROW k v 5 * 16 + ROW k v 6 ∧ ROW k v 1 + ROW k v 2 + ROW k v 3 + ROW k v 4 + ROW k v 5 + ROW k v 6 ≤ 15 := by
  have h64 := p64 hK
  have hv6 : ∀ i, v i < 64 := fun i => by have := hvb i; omega
  have h0 := ROW_0 hK hv hk hvb
  have h1 := rwn_R0 hv hk k (Nat.le_refl _)
  obtain ⟨h2, h3⟩ := q16_sum (f := pf v 4 k) (fun j => pc_le _ (pf_lt hv6 4 k j)) (2 ^ k)
  have h4 := p2m k (by omega)
  unfold ROW at *
  omega
theorem row_lt {a b : Nat → Nat} (ha : a 1 + a 2 + a 3 + a 4 + a 5 + a 6 ≤ 15) (hb : b 1 + b 2 + b 3 + b 4 + b 5 + b 6 ≤ 15) {w : Nat} (hw1 : 1 ≤ w) (hw : w ≤ 6) (he : ∀ i, 1 ≤ i → i < w → a i = b i) (hl : a w < b w) : a 1 * 1048576 + a 2 * 65536 + a 3 * 4096 + a 4 * 256 + a 5 * 16 + a 6 < b 1 * 1048576 + b 2 * 65536 + b 3 * 4096 + b 4 * 256 + b 5 * 16 + b 6 := by
  have c : w = 1 ∨ w = 2 ∨ w = 3 ∨ w = 4 ∨ w = 5 ∨ w = 6 := by omega
  rcases c with rfl | rfl | rfl | rfl | rfl | rfl
  · omega
  · have e1 := he 1 (by omega) (by omega); omega
  · have e1 := he 1 (by omega) (by omega); have e2 := he 2 (by omega) (by omega); omega
  · have e1 := he 1 (by omega) (by omega); have e2 := he 2 (by omega) (by omega); have e3 := he 3 (by omega) (by omega); omega
  · have e1 := he 1 (by omega) (by omega); have e2 := he 2 (by omega) (by omega); have e3 := he 3 (by omega) (by omega); have e4 := he 4 (by omega) (by omega); omega
  · have e1 := he 1 (by omega) (by omega); have e2 := he 2 (by omega) (by omega); have e3 := he 3 (by omega) (by omega); have e4 := he 4 (by omega) (by omega); have e5 := he 5 (by omega) (by omega); omega
/-- the first member that only one has -/
def MLX (S : Nat) (v u : Nat → Nat) : Prop := ∃ x, 1 ≤ x ∧ x < S ∧ (∀ y, 1 ≤ y → y < x → (sp v 4 4 y ↔ sp u 4 4 y)) ∧ sp v 4 4 x ∧ ¬ sp u 4 4 x
def RBT (S k : Nat) (v u : Nat → Nat) : Prop := rwn v k < rwn u k ∨ (rwn v k = rwn u k ∧ MLX S v u)
theorem MLX_trans {S : Nat} {v u w : Nat → Nat} (h1 : MLX S v u) (h2 : MLX S u w) : MLX S v w := by
  obtain ⟨x, x1, x2, x3, x4, x5⟩ := h1
  obtain ⟨y, y1, y2, y3, y4, y5⟩ := h2
  rcases Nat.lt_trichotomy x y with h | h | h
  · exact ⟨x, x1, x2, fun z z1 z2 => (x3 z z1 z2).trans (y3 z z1 (by omega)), x4, fun z => x5 ((y3 x x1 h).2 z)⟩
  · subst h; exact absurd y4 x5
  · exact ⟨y, y1, y2, fun z z1 z2 => (x3 z z1 (by omega)).trans (y3 z z1 z2), (x3 y y1 h).2 y4, y5⟩
theorem RBT_trans {S k : Nat} {v u w : Nat → Nat} (h1 : RBT S k v u) (h2 : RBT S k u w) : RBT S k v w := by
  rcases h1 with h1 | ⟨h1, m1⟩ <;> rcases h2 with h2 | ⟨h2, m2⟩
  · exact Or.inl (by omega)
  · exact Or.inl (by omega)
  · exact Or.inl (by omega)
  · exact Or.inr ⟨by omega, MLX_trans m1 m2⟩
theorem RBT_irr {S k : Nat} {v : Nat → Nat} : ¬ RBT S k v v := fun h => by
  rcases h with h | ⟨_, x, _, _, _, h1, h2⟩
  · omega
  · exact h2 h1
theorem wp_isPk {k : Nat} {v : Nat → Nat} (hv : TW k v) (hk : k ≤ 4) (hv6 : ∀ i, v i < 64) {t : Nat} (ht : t < 64) {product : Nat → Int32} (hp : ∀ j, j < 2 ^ k → product j = nI (pf v 4 k j)) {kk : Int32 → Prop} (h1 : sp v 4 k t → kk 1) (h0 : ¬ sp v 4 k t → kk 0) : wpX7_isProduct (nI (2 ^ k)) product (nI t) kk := by
  have e := TW_pn hv hk k (Nat.le_refl _)
  refine wp_isProd (p2m k (by omega)) (pf_lt hv6 4 k) ht hp (fun ⟨j, hj, ej⟩ => h1 ((sp_pf v 4 k t).2 ⟨j, by rw [e]; exact hj, ej⟩)) (fun hn => h0 (fun hs => ?_))
  obtain ⟨j, hj, ej⟩ := (sp_pf v 4 k t).1 hs
  rw [e] at hj
  exact hn j hj ej
/-- the cells that hold the best so far -/
def HS (k : Nat) (u : Nat → Nat) (br bh : Nat → Int32) : Prop := (∀ w, 1 ≤ w → w ≤ 6 → br w = nI (ROW k u w)) ∧ ∀ x, x < 64 → (sp u 4 4 x → bh x = 1) ∧ (¬ sp u 4 4 x → bh x = 0)
theorem wp_better {K k : Nat} (hK : K ≤ 6) (hk : k ≤ 4) {v u : Nat → Nat} (hv : TW k v) (hu : TW k u) (hvb : ∀ i, v i < 2 ^ K) (hub : ∀ i, u i < 2 ^ K) {g : Nat → Int32} (hg : g 0 = nI K) {product br bh : Nat → Int32} (hp : ∀ j, j < 2 ^ k → product j = nI (pf v 4 k j)) (hh : HS k u br bh) {kk : Int32 → Prop} (h1 : RBT (2 ^ K) k v u → kk 1) (h0 : ¬ RBT (2 ^ K) k v u → kk 0) : wpX7_isBetter g (nI (2 ^ k)) product br bh kk := by
  have h64 := p64 hK
  have hp0 := Nat.two_pow_pos K
  have hv6 : ∀ i, v i < 64 := fun i => by have := hvb i; omega
  have h16 := p2m k (by omega)
  obtain ⟨rv1, rv2⟩ := rwn_row hK hv hk hvb
  obtain ⟨ru1, ru2⟩ := rwn_row hK hu hk hub
  have hcl : ∀ a w, ROW k a w ≤ 16 := fun a w => Nat.le_trans (cn_le _ _ _) h16
  unfold wpX7_isBetter
  refine wloop_n (fun i st => st = nI (1 + i) ∧ ∀ w, 1 ≤ w → w < 1 + i → ROW k v w = ROW k u w) 6 ⟨rfl, fun w w1 w2 => absurd w2 (by omega)⟩ ?_ ?_
  · rintro i st again hi ⟨rfl, hf⟩ hag
    have b1 := hcl v (1 + i)
    have b2 := hcl u (1 + i)
    rw [wbX7_isBetter_2, nI_clamp (by omega), hh.1 (1 + i) (by omega) (by omega), nI_1]
    refine pk_lt 6 (1 + i) (fun z => absurd z (by omega)) (fun _ => wp_withF h16 (pf_lt hv6 4 k) (by omega) hp ⟨vp_in_nI (by omega) (by omega), ?_⟩)
    refine pk_eq (ROW k v (1 + i)) (ROW k u (1 + i)) (fun z => hag _ ⟨by rw [Nat.add_assoc], fun w w1 w2 => ?_⟩) (fun z => wp_withF h16 (pf_lt hv6 4 k) (by omega) hp ⟨vp_in_nI (by omega) (by omega), ?_⟩)
    · by_cases e : w = 1 + i
      · subst e; exact z
      · exact hf w w1 (by omega)
    · refine pk_le (ROW k u (1 + i)) (ROW k v (1 + i)) (fun z2 => h0 (fun q => ?_)) (fun z2 => h1 (Or.inl ?_))
      · have := row_lt (a := ROW k u) (b := ROW k v) ru2 rv2 (w := 1 + i) (by omega) (by omega) (fun j j1 j2 => (hf j j1 j2).symm) (by omega)
        rcases q with q | ⟨q, _⟩ <;> omega
      · have := row_lt (a := ROW k v) (b := ROW k u) rv2 ru2 (w := 1 + i) (by omega) (by omega) hf (by omega)
        omega
  · rintro st again ⟨rfl, hf⟩
    have heq : rwn v k = rwn u k := by
      rw [rv1, ru1, hf 1 (by omega) (by omega), hf 2 (by omega) (by omega), hf 3 (by omega) (by omega), hf 4 (by omega) (by omega), hf 5 (by omega) (by omega), hf 6 (by omega) (by omega)]
    rw [wbX7_isBetter_2]
    refine pk_lt 6 7 (fun _ => ?_) (fun z => absurd z (by omega))
    refine wloop_n (fun i st => st = nI (1 + i) ∧ ∀ y, 1 ≤ y → y < 1 + i → (sp v 4 4 y ↔ sp u 4 4 y)) (2 ^ K - 1) ⟨rfl, fun w w1 w2 => absurd w2 (by omega)⟩ ?_ ?_
    · rintro i st again2 hi ⟨rfl, hf2⟩ hag
      have go : (sp v 4 4 (1 + i) ↔ sp u 4 4 (1 + i)) → again2 (nI (1 + i + 1)) := fun z => hag _ ⟨by rw [Nat.add_assoc], fun w w1 w2 => by
        by_cases e : w = 1 + i
        · subst e; exact z
        · exact hf2 w w1 (by omega)⟩
      rw [wbX7_isBetter_50, nI_clamp (by omega), nI_1]
      refine wp_settM (by omega) hg (pk_le (2 ^ K) (1 + i) (fun z => absurd z (by omega)) (fun _ => ?_))
      by_cases cu : sp u 4 4 (1 + i)
      · rw [(hh.2 (1 + i) (by omega)).1 cu]
        refine wp_isPk hv hk hv6 (by omega) hp (fun cv => ⟨vp_in_nI (by omega) (by omega), fun _ => go ⟨fun _ => cu, fun _ => (sp_4 hv.2.1 hk).2 cv⟩, fun z => absurd rfl z⟩) (fun cv => ⟨vp_in_nI (by omega) (by omega), fun z => absurd z (by decide), fun _ => ?_⟩)
        refine wp_isPk hv hk hv6 (by omega) hp (fun c2 => absurd c2 cv) (fun _ => ⟨vz01 (Or.inl rfl), h0 (fun q => ?_)⟩)
        rcases q with q | ⟨_, x, x1, x2, x3, x4, x5⟩
        · omega
        · rcases Nat.lt_trichotomy x (1 + i) with h | h | h
          · exact x5 ((hf2 x x1 h).1 x4)
          · subst h; exact x5 cu
          · exact cv ((sp_4 hv.2.1 hk).1 ((x3 _ (by omega) h).2 cu))
      · rw [(hh.2 (1 + i) (by omega)).2 cu]
        refine wp_isPk hv hk hv6 (by omega) hp (fun cv => ⟨vp_in_nI (by omega) (by omega), fun z => absurd z (by decide), fun _ => ?_⟩) (fun cv => ⟨vp_in_nI (by omega) (by omega), fun _ => go ⟨fun z => absurd ((sp_4 hv.2.1 hk).1 z) cv, fun z => absurd z cu⟩, fun z => absurd rfl z⟩)
        exact wp_isPk hv hk hv6 (by omega) hp (fun _ => ⟨vz01 (Or.inr rfl), h1 (Or.inr ⟨heq, 1 + i, by omega, by omega, hf2, (sp_4 hv.2.1 hk).2 cv, cu⟩)⟩) (fun c2 => absurd cv c2)
    · rintro st again2 ⟨rfl, hf2⟩
      rw [wbX7_isBetter_50, show 1 + (2 ^ K - 1) = 2 ^ K by omega]
      refine wp_settM (by omega) hg (pk_le (2 ^ K) (2 ^ K) (fun _ => h0 (fun q => ?_)) (fun z => absurd z (by omega)))
      rcases q with q | ⟨_, x, x1, x2, x3, x4, x5⟩
      · omega
      · exact x5 ((hf2 x x1 (by omega)).1 x4)
theorem wp_isBest {K k : Nat} (hK : K ≤ 6) (hk : k ≤ 4) {v : Nat → Nat} (hv : TW k v) (hv6 : ∀ i, v i < 64) {product br bh bw tr : Nat → Int32} (hp : ∀ j, j < 2 ^ k → product j = nI (pf v 4 k j)) {kk : (Nat → Int32) → (Nat → Int32) → (Nat → Int32) → Prop} (h : ∀ br' bh' bw', HS k v br' bh' → (∀ i, i < 4 → k ≤ i → bw' i = 0) → kk br' bh' bw') : wpX7_isBest (nI (2 ^ k)) product br bh bw tr (nI k) kk := by
  have h16 := p2m k (by omega)
  unfold wpX7_isBest
  refine wloop_n (fun i st => ∃ b, st = (nI (1 + i), b) ∧ ∀ w, 1 ≤ w → w < 1 + i → b w = nI (ROW k v w)) 6 ⟨br, rfl, fun w w1 w2 => absurd w2 (by omega)⟩ ?_ ?_
  · rintro i st again hi ⟨b, rfl, hb'⟩ hag
    rw [wbX7_isBest_2, nI_clamp (by omega), nI_1]
    refine pk_lt 6 (1 + i) (fun z => absurd z (by omega)) (fun _ => wp_withF h16 (pf_lt hv6 4 k) (by omega) hp ⟨vp_in_nI (by omega) (by omega), hag _ ⟨upd b (1 + i) (nI (ROW k v (1 + i))), by rw [Nat.add_assoc]; rfl, fun w w1 w2 => ?_⟩⟩)
    by_cases e : w = 1 + i
    · subst e; rw [pk_us]
    · rw [pk_un e]; exact hb' w w1 (by omega)
  · rintro st again ⟨b, rfl, hb'⟩
    rw [wbX7_isBest_2]
    refine pk_lt 6 7 (fun _ => ?_) (fun z => absurd z (by omega))
    refine wloop_n (fun i st => ∃ b2, st = (nI i, b2) ∧ ∀ x, x < i → (sp v 4 4 x → b2 x = 1) ∧ (¬ sp v 4 4 x → b2 x = 0)) 64 ⟨bh, rfl, fun x hx => absurd hx (Nat.not_lt_zero _)⟩ ?_ ?_
    · rintro i st again2 hi ⟨b2, rfl, hb2⟩ hag
      rw [wbX7_isBest_27, nI_clamp (by omega), nI_1]
      refine pk_le 64 i (fun z => absurd z (by omega)) (fun _ => wp_isPk hv hk hv6 hi hp (fun c => ⟨vp_in_nI (by omega) (by omega), hag _ ⟨upd b2 i 1, rfl, fun x hx => ?_⟩⟩) (fun c => ⟨vp_in_nI (by omega) (by omega), hag _ ⟨upd b2 i 0, rfl, fun x hx => ?_⟩⟩))
      · by_cases e : x = i
        · subst e; rw [pk_us]; exact ⟨fun _ => rfl, fun z => absurd ((sp_4 hv.2.1 hk).2 c) z⟩
        · rw [pk_un e]; exact hb2 x (by omega)
      · by_cases e : x = i
        · subst e; rw [pk_us]; exact ⟨fun z => absurd ((sp_4 hv.2.1 hk).1 z) c, fun _ => rfl⟩
        · rw [pk_un e]; exact hb2 x (by omega)
    · rintro st again2 ⟨b2, rfl, hb2⟩
      rw [wbX7_isBest_27]
      refine pk_le 64 64 (fun _ => ?_) (fun z => absurd z (by omega))
      refine wloop_n (fun i st => ∃ w', st = (nI i, w') ∧ ∀ x, x < i → k ≤ x → w' x = 0) 4 ⟨bw, rfl, fun x hx => absurd hx (Nat.not_lt_zero _)⟩ ?_ ?_
      · rintro i st again3 hi ⟨w', rfl, hw'⟩ hag
        rw [wbX7_isBest_52, nI_clamp (by omega), nI_1]
        refine pk_le 4 i (fun z => absurd z (by omega)) (fun _ => pk_le k i (fun z => ⟨vp_in_nI (by omega) (by omega), hag _ ⟨_, rfl, fun x hx hx2 => ?_⟩⟩) (fun z => ⟨vp_in_nI (by omega) (by omega), vp_in_nI (by omega) (by omega), hag _ ⟨_, rfl, fun x hx hx2 => ?_⟩⟩))
        · by_cases e : x = i
          · subst e; rw [pk_us]
          · rw [pk_un e]; exact hw' x (by omega) hx2
        · rw [pk_un (by omega)]; exact hw' x (by omega) hx2
      · rintro st again3 ⟨w', rfl, hw'⟩
        rw [wbX7_isBest_52]
        exact pk_le 4 4 (fun _ => h _ _ _ ⟨fun w w1 w2 => hb' w w1 (by omega), hb2⟩ hw') (fun z => absurd z (by omega))
