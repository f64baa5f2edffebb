/-! parts: the class's search -/
def q16 (x : Nat) : Nat := 16 ^ (6 - pc x)
def rwn (u : Nat → Nat) : Nat → Nat
  | 0 => 0
  | a + 1 => rwn u a + nsum (fun j => q16 (pf u 4 a j ^^^ u a)) (2 ^ a)
theorem sh16 : ∀ p, p < 7 → (1 : Int32) <<< (((4 : Int32) * ((6 : Int32) - nI p)) &&& 31) = nI (16 ^ (6 - p)) := by decide +kernel
theorem q16_le (x : Nat) : q16 x ≤ 16777216 := Nat.pow_le_pow_right (n := 16) (by omega) (by omega : 6 - pc x ≤ 6)
theorem nsum_le {f : Nat → Nat} {B : Nat} (h : ∀ i, f i ≤ B) : ∀ n, nsum f n ≤ n * B
  | 0 => by rw [nsum]; omega
  | n + 1 => by rw [nsum, Nat.succ_mul]; exact Nat.add_le_add (nsum_le h n) (h n)
theorem nsum_congr {f g : Nat → Nat} : ∀ {n : Nat}, (∀ i, i < n → f i = g i) → nsum f n = nsum g n
  | 0, _ => rfl
  | n + 1, h => by rw [nsum, nsum, nsum_congr (n := n) (fun i hi => h i (by omega)), h n (by omega)]
theorem rwn_le (u : Nat → Nat) : ∀ a, rwn u a ≤ 2 ^ a * 16777216
  | 0 => by rw [rwn]; omega
  | a + 1 => by
    have h1 := rwn_le u a
    have h2 := nsum_le (f := fun j => q16 (pf u 4 a j ^^^ u a)) (fun i => q16_le _) (2 ^ a)
    rw [rwn, Nat.pow_succ]; omega
theorem nsum_le_i {f : Nat → Nat} {B : Nat} : ∀ {n : Nat}, (∀ i, i < n → f i ≤ B) → nsum f n ≤ n * B
  | 0, _ => by rw [nsum]; omega
  | n + 1, h => by rw [nsum, Nat.succ_mul]; exact Nat.add_le_add (nsum_le_i (fun i hi => h i (by omega))) (h n (by omega))
theorem pc_1 : ∀ t, t < 64 → t ≠ 0 → 1 ≤ pc t := by decide +kernel
/-- no PRODUCT of reduced WORDS is 0: 15 of them at most, each of at least one FACTOR -/
theorem rwn_15 {k : Nat} {u : Nat → Nat} (hu : TW k u) (hk : k ≤ 4) (h64 : ∀ i, u i < 64) : ∀ a, a ≤ k → rwn u a + 1048576 ≤ 2 ^ a * 1048576
  | 0, _ => by rw [rwn]; omega
  | a + 1, ha => by
    have h1 := rwn_15 hu hk h64 a (by omega)
    have h2 := nsum_le_i (f := fun j => q16 (pf u 4 a j ^^^ u a)) (B := 1048576) (n := 2 ^ a) (fun j hj => by
      have hne : pf u 4 a j ≠ u a := fun e => hu.2.2 a (by omega) ((sp_pf u 4 a (u a)).2 ⟨j, by rw [TW_pn hu hk a (by omega)]; exact hj, e⟩)
      have h3 := pc_1 _ (xor64 (pf_lt h64 4 a j) (h64 a)) (xor_ne hne)
      exact Nat.pow_le_pow_right (n := 16) (by omega) (by omega : 6 - pc (pf u 4 a j ^^^ u a) ≤ 5))
    rw [rwn, Nat.pow_succ]; omega
theorem pn_cong {u v : Nat → Nat} : ∀ {a : Nat}, (∀ i, i < a → u i = v i) → pn u 4 a = pn v 4 a
  | 0, _ => rfl
  | a + 1, h => by rw [pn, pn, pn_cong (a := a) (fun i hi => h i (by omega)), h a (by omega)]
theorem pf_cong {u v : Nat → Nat} : ∀ {a : Nat}, (∀ i, i < a → u i = v i) → ∀ j, pf u 4 a j = pf v 4 a j
  | 0, _, _ => rfl
  | a + 1, h, j => by
    have h1 := pf_cong (a := a) (fun i hi => h i (by omega))
    rw [pf, pf, pn_cong (a := a) (fun i hi => h i (by omega)), h a (by omega), h1 j, h1]
theorem rwn_cong {u v : Nat → Nat} : ∀ {a : Nat}, (∀ i, i < a → u i = v i) → rwn u a = rwn v a
  | 0, _ => rfl
  | a + 1, h => by
    rw [rwn, rwn, rwn_cong (a := a) (fun i hi => h i (by omega)), h a (by omega)]
    congr 1
    exact nsum_congr (fun j _ => by rw [pf_cong (a := a) (fun i hi => h i (by omega))])
theorem wp_gf {m : Nat} (hm : m < 64) {k : Int32 → Prop} (h : k (nI (hb m))) : wpX4_greatestFactor (nI m) k := by
  unfold wpX4_greatestFactor
  refine wloop_n (fun i st => st = (nI (hbf m i), nI i)) 6 rfl ?_ ?_
  · rintro i st again hi rfl hag
    rw [wbX4_greatestFactor_4]
    refine pk_le 6 i (fun z => absurd z (by omega)) (fun _ => ⟨fun z => hag _ ?_, fun z => hag _ ?_⟩)
    · rw [hbf, if_pos ((tb1 m hm i hi).1.1 z), nI_1]
    · rw [hbf, if_neg (fun e => z ((tb1 m hm i hi).1.2 e)), (shl_tab i (by omega)).1, nI_1]
  · rintro st again rfl
    rw [wbX4_greatestFactor_4]
    exact pk_le 6 6 (fun _ => h) (fun z => absurd z (by omega))
theorem wp_mul {a : Nat} (ha : a < 4) {pr : Nat → Nat} (hpr : ∀ j, pr j < 64) {t : Nat} (ht : t < 64) {products : Nat → Int32} (hp : ∀ j, j < 2 ^ a → products j = nI (pr j)) {k : Int32 → (Nat → Int32) → Prop} (h : ∀ f, (∀ j, j < 2 ^ (a + 1) → f j = nI (if j < 2 ^ a then pr j else pr (j - 2 ^ a) ^^^ t)) → k (nI (nsum (fun j => q16 (pr j ^^^ t)) (2 ^ a))) f) : wpX4_multiply products (nI a) (nI t) k := by
  have h16 := p2m (a + 1) (by omega)
  rw [Nat.pow_succ] at h16
  have hp0 := Nat.two_pow_pos a
  unfold wpX4_multiply
  refine wloop_n (fun i st => ∃ f, st = (nI (nsum (fun j => q16 (pr j ^^^ t)) i), nI i, f) ∧ (∀ j, j < 2 ^ a → f j = nI (pr j)) ∧ ∀ j, j < i → f (2 ^ a + j) = nI (pr j ^^^ t)) (2 ^ a) ⟨products, rfl, hp, fun j hj => absurd hj (Nat.not_lt_zero _)⟩ ?_ ?_
  · rintro i st again hi ⟨f, rfl, h1, h2⟩ hag
    have hx := xor64 (hpr i) ht
    have hpc := pc_le _ hx
    rw [wbX4_multiply_10, (shl_tab a (by omega)).1, nI_add, nI_clamp (show i < 2 ^ 31 by omega), nI_clamp (show 2 ^ a + i < 2 ^ 31 by omega), h1 i hi, xor_tab _ (hpr i) _ ht, vbc_pc _ hx, sh16 _ (by omega), nI_add, nI_1]
    refine pk_le (2 ^ a) i (fun z => absurd z (by omega)) (fun _ => pk_le 16 (2 ^ a + i) (fun z => absurd z (by omega)) (fun _ => ⟨vp_in_nI (by omega) (by omega), vp_in_nI (by omega) (by omega), hag _ ⟨_, rfl, fun j hj => ?_, fun j hj => ?_⟩⟩))
    · rw [pk_un (by omega), h1 j hj]
    · by_cases e2 : j = i
      · subst e2; rw [pk_us]
      · rw [pk_un (by omega), h2 j (by omega)]
  · rintro st again ⟨f, rfl, h1, h2⟩
    rw [wbX4_multiply_10, (shl_tab a (by omega)).1]
    refine pk_le (2 ^ a) (2 ^ a) (fun _ => h f (fun j hj => ?_)) (fun z => absurd z (by omega))
    rw [Nat.pow_succ] at hj
    by_cases e2 : j < 2 ^ a
    · rw [if_pos e2, h1 j e2]
    · rw [if_neg e2, ← h2 (j - 2 ^ a) (by omega)]; congr 1; omega
def JB (k : Nat) (D : (Nat → Nat) → Prop) (lr : Int32) (fi : Nat → Int32) : Prop :=
  ((∀ v, ¬ D v) ∧ lr = 16777216) ∨ ∃ u, D u ∧ lr = nI (rwn u k) ∧ (∀ v, D v → rwn u k ≤ rwn v k) ∧ (∀ v, D v → rwn v k = rwn u k → ¬ lexgt u v) ∧ ∀ i, i < k → fi i = nI (u i)
theorem JB_cong {k : Nat} {D D' : (Nat → Nat) → Prop} {lr : Int32} {fi : Nat → Int32} (h : ∀ u, D u ↔ D' u) (hj : JB k D lr fi) : JB k D' lr fi := by
  have e : D = D' := funext (fun u => propext (h u))
  subst e; exact hj
def DB (S k : Nat) (u : Nat → Nat) (a : Nat) (v : Nat → Nat) : Prop := RB S k v ∧ ∃ j, j < a ∧ (∀ i, i < j → v i = u i) ∧ v j < u j
def DC (S k : Nat) (u : Nat → Nat) (a t : Nat) (v : Nat → Nat) : Prop := DB S k u a v ∨ (RB S k v ∧ (∀ i, i < a → v i = u i) ∧ v a < t)
def DA (S k : Nat) (u : Nat → Nat) (a : Nat) (v : Nat → Nat) : Prop := DB S k u a v ∨ (RB S k v ∧ ∀ i, i < a → v i = u i)
theorem DB_apd {S k a t : Nat} {u v : Nat → Nat} : DB S k (apd u a t) (a + 1) v ↔ DC S k u a t v := by
  constructor
  · rintro ⟨hv, j, hj, h1, h2⟩
    by_cases e : j = a
    · subst e; rw [apd_s] at h2
      exact Or.inr ⟨hv, fun i hi => by rw [h1 i hi, apd_n (by omega)], h2⟩
    · rw [apd_n e] at h2
      exact Or.inl ⟨hv, j, by omega, fun i hi => by rw [h1 i hi, apd_n (by omega)], h2⟩
  · rintro (⟨hv, j, hj, h1, h2⟩ | ⟨hv, h1, h2⟩)
    · exact ⟨hv, j, by omega, fun i hi => by rw [h1 i hi, apd_n (by omega)], by rw [apd_n (by omega)]; exact h2⟩
    · exact ⟨hv, a, by omega, fun i hi => by rw [h1 i hi, apd_n (by omega)], by rw [apd_s]; exact h2⟩
theorem DA_apd {S k a t : Nat} {u v : Nat → Nat} : DA S k (apd u a t) (a + 1) v ↔ DC S k u a (t + 1) v := by
  constructor
  · rintro (h | ⟨hv, h1⟩)
    · rcases DB_apd.1 h with h | ⟨h1, h2, h3⟩
      · exact Or.inl h
      · exact Or.inr ⟨h1, h2, by omega⟩
    · exact Or.inr ⟨hv, fun i hi => by rw [h1 i (by omega), apd_n (by omega)], by rw [h1 a (by omega), apd_s]; omega⟩
  · rintro (h | ⟨hv, h1, h2⟩)
    · exact Or.inl (DB_apd.2 (Or.inl h))
    · by_cases e : v a = t
      · refine Or.inr ⟨hv, fun i hi => ?_⟩
        by_cases e2 : i = a
        · subst e2; rw [apd_s]; exact e
        · rw [apd_n e2]; exact h1 i (by omega)
      · exact Or.inl (DB_apd.2 (Or.inr ⟨hv, h1, by omega⟩))
theorem sh1 : ∀ x, x < 64 → nI x <<< ((1 : Int32) &&& 31) = nI (2 * x) := by decide +kernel
theorem and0 : ∀ x, x < 64 → ∀ y, y < 64 → (nI x &&& nI y = 0 ↔ x &&& y = 0) := by decide +kernel
theorem pf_apd {S a t : Nat} (hS : S ≤ 64) (ha : a < 4) {u : Nat → Nat} (hu : RB S a u) (ht : t ≠ 0) (j : Nat) : pf (apd u a t) 4 (a + 1) j = if j < 2 ^ a then pf u 4 a j else pf u 4 a (j - 2 ^ a) ^^^ t := by
  have e1 : pn (apd u a t) 4 a = a := by rw [pn_cong (v := u) (fun i hi => apd_n (by omega))]; exact TW_pn (RB_TW hS hu).1 (by omega) a (Nat.le_refl _)
  have e2 := pf_cong (u := apd u a t) (v := u) (a := a) (fun i hi => apd_n (by omega))
  rw [pf, e1, apd_s, if_pos ⟨by omega, ht⟩, e2, e2]
theorem wp_extend {S k : Nat} (hS : S ≤ 64) (hk : k ≤ 4) : ∀ (d a : Nat), a ≤ k → k < a + d → ∀ (u : Nat → Nat), RB S a u → ∀ (words products fi : Nat → Int32) (lr : Int32) (kk : (Nat → Int32) → (Nat → Int32) → (Nat → Int32) → Int32 → Prop), (∀ i, i < a → words i = nI (u i)) → (∀ j, j < 2 ^ a → products j = nI (pf u 4 a j)) → JB k (DB S k u a) lr fi → (∀ w' p' fi' lr', (∀ i, i < a → w' i = nI (u i)) → (∀ j, j < 2 ^ a → p' j = nI (pf u 4 a j)) → JB k (DA S k u a) lr' fi' → kk w' p' fi' lr') → wpX4_extend d words products fi (nI S) (nI k) lr (nI a) (nI (rwn u a)) (nI (lm u a)) kk
  | 0, a, ha, hd => absurd hd (by omega)
  | d + 1, a, ha, hd => by
    intro u hu words products fi lr kk hw hp hj hkk
    rw [wpX4_extend]
    unfold wqX4_extend
    have hu64 := RB_lt hS hu
    have hrb : ∀ v : Nat → Nat, ∀ b, b ≤ 4 → rwn v b ≤ 268435456 := fun v b hb4 => by
      have h1 := rwn_le v b
      have h2 : 2 ^ b ≤ 2 ^ 4 := Nat.pow_le_pow_right (by omega) hb4
      omega
    have hr := hrb u a (by omega)
    refine pk_le k a (fun z => ?_) (fun z => ?_)
    · have e : a = k := by omega
      subst e
      unfold wpX4_judge
      have same : ∀ v, RB S a v → (∀ i, i < a → v i = u i) → v = u := fun v hv h => funext (fun i => by
        rcases Nat.lt_or_ge i a with hi | hi
        · exact h i hi
        · rw [hv.2 i hi, hu.2 i hi])
      refine ⟨fun zz => hkk _ _ _ _ hw hp ?_, fun zz => hkk _ _ _ _ hw hp ?_⟩
      · rcases hj with ⟨h1, h2⟩ | ⟨v, h1, h2, h3, h4, h5⟩
        · have h15 := rwn_15 (RB_TW hS hu).1 (by omega) hu64 a (Nat.le_refl _)
          have h16 : 2 ^ a ≤ 2 ^ 4 := Nat.pow_le_pow_right (by omega) (by omega)
          rw [h2, show (16777216 : Int32) = iI 16777216 from rfl, nI_iI, iI_le (by decide) (by omega)] at zz
          omega
        · have hrv := hrb v a (by omega)
          rw [h2, nI_iI, nI_iI, iI_le (by omega) (by omega)] at zz
          refine Or.inr ⟨v, Or.inl h1, h2, fun w hw' => ?_, fun w hw' he => ?_, h5⟩
          · rcases hw' with h | ⟨h, h'⟩
            · exact h3 w h
            · rw [same w h h']; omega
          · rcases hw' with h | ⟨h, h'⟩
            · exact h4 w h he
            · rw [same w h h']
              obtain ⟨_, j, _, j1, j2⟩ := h1
              exact lex_asym ⟨j, fun i hi => (j1 i hi).symm, j2⟩
      · refine Or.inr ⟨u, Or.inr ⟨hu, fun _ _ => rfl⟩, rfl, fun w hw' => ?_, fun w hw' he => ?_, hw⟩
        · rcases hw' with h | ⟨h, h'⟩
          · rcases hj with ⟨h1, h2⟩ | ⟨v, h1, h2, h3, h4, h5⟩
            · exact absurd h (h1 w)
            · have hrv := hrb v a (by omega)
              rw [h2, nI_iI, nI_iI, iI_le (by omega) (by omega)] at zz
              have := h3 w h; omega
          · rw [same w h h']; exact Nat.le_refl _
        · rcases hw' with h | ⟨h, h'⟩
          · rcases hj with ⟨h1, h2⟩ | ⟨v, h1, h2, h3, h4, h5⟩
            · exact absurd h (h1 w)
            · have hrv := hrb v a (by omega)
              rw [h2, nI_iI, nI_iI, iI_le (by omega) (by omega)] at zz
              have := h3 w h; omega
          · rw [same w h h']; exact lex_irr u
    · refine pk_lt a 4 (fun _ => ?_) (fun z => absurd z (by omega))
      have hl64 := lm_lt hu64 a
      have hh64 := hb_6 _ hl64
      refine wp_gf hl64 ?_
      rw [sh1 _ hh64]
      have e0 : (if (1 : Int32) < nI (2 * hb (lm u a)) then nI (2 * hb (lm u a)) else 1) = nI (max 1 (2 * hb (lm u a))) := by
        by_cases c : 1 < 2 * hb (lm u a)
        · rw [if_pos (show (1 : Int32) < nI (2 * hb (lm u a)) from (show nI 1 < nI (2 * hb (lm u a)) from nI_lt c (by omega))), Nat.max_eq_right (by omega)]
        · rw [if_neg (show ¬ (1 : Int32) < nI (2 * hb (lm u a)) from (show ¬ nI 1 < nI (2 * hb (lm u a)) from nI_nlt (by omega) (by omega))), Nat.max_eq_left (by omega)]; rfl
      rw [e0]
      have ht0b : 1 ≤ max 1 (2 * hb (lm u a)) ∧ 2 * hb (lm u a) ≤ max 1 (2 * hb (lm u a)) ∧ max 1 (2 * hb (lm u a)) ≤ 126 := by omega
      have hmin : ∀ v, RB S k v → (∀ i, i < a → v i = u i) → max 1 (2 * hb (lm u a)) ≤ v a ∧ v a < S ∧ v a &&& lm u a = 0 := fun v hv h => by
        obtain ⟨q1, q2, q3, q4⟩ := hv.1 a (by omega)
        rw [lm_cong (v := u) h] at q2 q4
        exact ⟨by omega, q3, q4⟩
      generalize max 1 (2 * hb (lm u a)) = t0 at *
      refine wloop_n (fun i st => ∃ w' p' fi' lr', st = (nI (t0 + i), w', p', fi', lr') ∧ (∀ i, i < a → w' i = nI (u i)) ∧ (∀ j, j < 2 ^ a → p' j = nI (pf u 4 a j)) ∧ JB k (DC S k u a (t0 + i)) lr' fi') (S - t0) ⟨words, products, fi, lr, rfl, hw, hp, JB_cong (fun v => ?_) hj⟩ ?_ ?_
      · exact ⟨Or.inl, fun q => q.elim id (fun ⟨h1, h2, h3⟩ => absurd (hmin v h1 h2).1 (by omega))⟩
      · rintro i st again hi ⟨w', p', fi', lr', rfl, hw', hp', hj'⟩ hag
        have hag' : ∀ w2 p2 fi2 lr2, (∀ i, i < a → w2 i = nI (u i)) → (∀ j, j < 2 ^ a → p2 j = nI (pf u 4 a j)) → JB k (DC S k u a (t0 + i + 1)) lr2 fi2 → again (nI (t0 + i + 1), w2, p2, fi2, lr2) := fun w2 p2 fi2 lr2 q1 q2 q3 => hag _ ⟨w2, p2, fi2, lr2, rfl, q1, q2, q3⟩
        generalize hte : t0 + i = t at *
        have htS : t < S := by omega
        have ht64 : t < 64 := by omega
        have ht1 : 1 ≤ t := by omega
        have ht2 : 2 * hb (lm u a) ≤ t := by omega
        rw [wbX4_extend_35, nI_1]
        refine pk_le S t (fun z => absurd z (by omega)) (fun _ => ⟨fun z => ?_, fun z => ?_⟩)
        · rw [and0 _ ht64 _ hl64] at z
          have hu' : RB S (a + 1) (apd u a t) := by
            refine ⟨fun b hb' => ?_, fun i hi => by rw [apd_n (by omega)]; exact hu.2 i (by omega)⟩
            rw [lm_cong (v := u) (fun i hi => apd_n (by omega))]
            by_cases e : b = a
            · subst e; rw [apd_s]; exact ⟨ht1, ht2, htS, z⟩
            · rw [apd_n e]; exact hu.1 b (by omega)
          refine ⟨vp_in_nI (by omega) (by omega), wp_mul (by omega) (pf_lt hu64 4 a) ht64 hp' (fun f hf => wp_gf ht64 ?_)⟩
          rw [nI_clamp (by omega), nI_add, nI_or, nI_1]
          have e1 : rwn u a + nsum (fun j => q16 (pf u 4 a j ^^^ t)) (2 ^ a) = rwn (apd u a t) (a + 1) := by
            rw [rwn, rwn_cong (v := u) (fun i hi => apd_n (by omega)), apd_s]
            congr 1
            exact nsum_congr (fun j _ => by rw [pf_cong (u := apd u a t) (v := u) (fun i hi => apd_n (by omega))])
          have e2 : lm u a ||| hb t = lm (apd u a t) (a + 1) := by rw [lm, lm_cong (u := apd u a t) (v := u) (fun i hi => apd_n (by omega)), apd_s]
          rw [e1, e2]
          refine wp_extend hS hk d (a + 1) (by omega) (by omega) (apd u a t) hu' _ _ _ _ _ (fun i hi => ?_) (fun j hj2 => ?_) (JB_cong (fun v => DB_apd.symm) hj') (fun w2 p2 fi2 lr2 hw2 hp2 hj2 => ?_)
          · by_cases e : i = a
            · subst e; rw [pk_us, apd_s]
            · rw [pk_un e, apd_n e]; exact hw' i (by omega)
          · rw [hf j hj2, pf_apd hS (by omega) hu (by omega)]
          · refine hag' _ _ _ _ (fun i hi => ?_) (fun j hj3 => ?_) (JB_cong (fun v => DA_apd) hj2)
            · rw [hw2 i (by omega), apd_n (by omega)]
            · rw [hp2 j (by rw [Nat.pow_succ]; omega), pf_apd hS (by omega) hu (by omega), if_pos hj3]
        · rw [and0 _ ht64 _ hl64] at z
          rw [nI_1]
          refine hag' _ _ _ _ hw' hp' (JB_cong (fun v => ⟨fun q => q.elim Or.inl (fun ⟨h1, h2, h3⟩ => Or.inr ⟨h1, h2, by omega⟩), fun q => q.elim Or.inl (fun ⟨h1, h2, h3⟩ => Or.inr ⟨h1, h2, ?_⟩)⟩) hj')
          have q1 := (hmin v h1 h2).2.2
          rcases Nat.lt_or_ge (v a) t with h | h
          · exact h
          · rw [show v a = t by omega] at q1; exact absurd q1 z
      · rintro st again ⟨w', p', fi', lr', rfl, hw', hp', hj'⟩
        rw [wbX4_extend_35]
        refine pk_le S (t0 + (S - t0)) (fun _ => hkk _ _ _ _ hw' hp' (JB_cong (fun v => ⟨fun q => q.elim Or.inl (fun ⟨h1, h2, h3⟩ => Or.inr ⟨h1, h2⟩), fun q => q.elim Or.inl (fun ⟨h1, h2⟩ => Or.inr ⟨h1, h2, ?_⟩)⟩) hj')) (fun z => absurd z (by omega))
        have := (hmin v h1 h2).2.1
        omega
theorem rb_ex1 : ∀ k, k < 5 → ∀ a, a < k → 1 ≤ 2 ^ a ∧ 2 * hb (lm (fun i => if i < k then 2 ^ i else 0) a) ≤ 2 ^ a ∧ 2 ^ a &&& lm (fun i => if i < k then 2 ^ i else 0) a = 0 := by decide +kernel
theorem RB_ex {K k : Nat} (hk : k ≤ 4) (hkK : k ≤ K) : ∃ u, RB (2 ^ K) k u := by
  refine ⟨fun i => if i < k then 2 ^ i else 0, fun a ha => ?_, fun i hi => if_neg (by omega)⟩
  obtain ⟨h1, h2, h3⟩ := rb_ex1 k (by omega) a ha
  dsimp only
  rw [if_pos ha]
  exact ⟨h1, h2, Nat.pow_lt_pow_right (by omega) (by omega), h3⟩
/-- the class's part -/
def BB (S k : Nat) (u : Nat → Nat) : Prop := RB S k u ∧ (∀ v, RB S k v → rwn u k ≤ rwn v k) ∧ ∀ v, RB S k v → rwn v k = rwn u k → ¬ lexgt u v
theorem wp_findB {K k : Nat} (hK : K ≤ 6) (hk : k ≤ 4) (hkK : k ≤ K) {words products first : Nat → Int32} {te ct lr : Int32} {kk : (Nat → Int32) → (Nat → Int32) → (Nat → Int32) → Int32 → Int32 → Int32 → Prop} (h : ∀ w' p' fi lr' u, BB (2 ^ K) k u → (∀ i, i < k → fi i = nI (u i)) → kk w' p' fi (nI (2 ^ K)) (nI k) lr') : wpX4_find words products first te ct lr (nI (2 ^ K)) (nI k) kk := by
  unfold wpX4_find
  refine wp_extend (S := 2 ^ K) (k := k) (p64 hK) hk 6 0 (Nat.zero_le _) (by omega) (fun _ => 0) ⟨fun a ha => absurd ha (Nat.not_lt_zero _), fun _ _ => rfl⟩ _ _ _ _ _ (fun i hi => absurd hi (Nat.not_lt_zero _)) (fun j hj => ?_) (Or.inl ⟨fun v hv => ?_, rfl⟩) (fun w' p' fi' lr' _ _ hj => ?_)
  · have e : j = 0 := by rw [Nat.pow_zero] at hj; omega
    subst e; rw [pk_us]; rfl
  · obtain ⟨_, j, hj, _⟩ := hv; exact absurd hj (Nat.not_lt_zero _)
  · have hd : ∀ v, DA (2 ^ K) k (fun _ => 0) 0 v ↔ RB (2 ^ K) k v := fun v => ⟨fun q => q.elim (fun q => q.1) (fun q => q.1), fun q => Or.inr ⟨q, fun i hi => absurd hi (Nat.not_lt_zero _)⟩⟩
    rcases JB_cong hd hj with ⟨h1, _⟩ | ⟨u, h1, _, h3, h4, h5⟩
    · obtain ⟨u, hu⟩ := RB_ex (K := K) hk hkK
      exact absurd hu (h1 u)
    · exact h _ _ _ _ u ⟨h1, h3, h4⟩ h5
