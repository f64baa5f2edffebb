/-! words stay independent; the steps word, alike, alikeOf -/
theorem sp_up {wo : Nat → Nat} {b m m' t : Nat} (h : m ≤ m') (hs : sp wo b m t) : sp wo b m' t := by
  induction m' with
  | zero => have : m = 0 := by omega
            subst this; exact hs
  | succ m' ih =>
    by_cases e : m = m' + 1
    · subst e; exact hs
    · exact Or.inl (ih (by omega))
theorem sp_but {wo : Nat → Nat} {b : Nat} : ∀ {m t : Nat}, m ≤ 4 → sp wo b m t → sp wo 4 m t
  | 0, _, _, h => h
  | m + 1, t, hm, h => by
    rcases h with h | ⟨h1, h2, h3⟩
    · exact Or.inl (sp_but (by omega) h)
    · exact Or.inr ⟨by omega, h2, sp_but (by omega) h3⟩
theorem sp_cut {wo : Nat → Nat} {i : Nat} : ∀ {m t : Nat}, m ≤ i → sp wo 4 m t → sp wo i m t
  | 0, _, _, h => h
  | m + 1, t, hm, h => by
    rcases h with h | ⟨h1, h2, h3⟩
    · exact Or.inl (sp_cut (by omega) h)
    · exact Or.inr ⟨by omega, h2, sp_cut (by omega) h3⟩
theorem sp_cong {wo wo' : Nat → Nat} {b : Nat} : ∀ {m t : Nat}, (∀ k, k < m → wo' k = wo k) → sp wo' b m t → sp wo b m t
  | 0, _, _, h => h
  | m + 1, t, hc, h => by
    rcases h with h | ⟨h1, h2, h3⟩
    · exact Or.inl (sp_cong (fun k hk => hc k (by omega)) h)
    · rw [hc m (by omega)] at h2 h3
      exact Or.inr ⟨h1, h2, sp_cong (fun k hk => hc k (by omega)) h3⟩
theorem sp_zero {wo : Nat → Nat} {b : Nat} : ∀ m, sp wo b m 0
  | 0 => rfl
  | m + 1 => Or.inl (sp_zero m)
theorem xor_r (a b c : Nat) : a ^^^ b ^^^ c = a ^^^ c ^^^ b := by rw [Nat.xor_assoc, Nat.xor_comm b c, ← Nat.xor_assoc]
theorem sp_new {wo : Nat → Nat} {i t : Nat} : ∀ {m u : Nat}, i < m → m ≤ 4 → sp (fun k => if k = i then t else wo k) 4 m u → sp wo i m u ∨ sp wo i m (u ^^^ t)
  | 0, _, h, _, _ => absurd h (Nat.not_lt_zero _)
  | m + 1, u, hi, hm, h => by
    by_cases e : i = m
    · subst e
      have c : ∀ v, sp (fun k => if k = i then t else wo k) 4 i v → sp wo i i v := fun v hv => sp_cut (Nat.le_refl _) (sp_cong (fun k hk => if_neg (by omega)) hv)
      rcases h with h | ⟨h1, h2, h3⟩
      · exact Or.inl (Or.inl (c _ h))
      · dsimp only at h3; rw [if_pos rfl] at h3; exact Or.inr (Or.inl (c _ h3))
    · rcases h with h | ⟨h1, h2, h3⟩
      · rcases sp_new (by omega) (by omega) h with h | h
        · exact Or.inl (Or.inl h)
        · exact Or.inr (Or.inl h)
      · dsimp only at h2 h3
        rw [if_neg (fun z => e z.symm)] at h2 h3
        rcases sp_new (by omega) (by omega) h3 with h | h
        · exact Or.inl (Or.inr ⟨fun z => e z.symm, h2, h⟩)
        · exact Or.inr (Or.inr ⟨fun z => e z.symm, h2, by rw [xor_r]; exact h⟩)
theorem IN_word {wo : Nat → Nat} (h : IN wo) {i t : Nat} (hi : i < 4) (ht : t ≠ 0 → ¬ sp wo i 4 t) : IN (fun k => if k = i then t else wo k) := by
  intro m hm h0 hs
  dsimp only at h0 hs
  rcases Nat.lt_trichotomy m i with e | e | e
  · rw [if_neg (by omega)] at h0 hs
    exact h m hm h0 (sp_cong (fun k hk => if_neg (by omega)) hs)
  · subst e
    rw [if_pos rfl] at h0 hs
    exact ht h0 (sp_up (by omega) (sp_cut (Nat.le_refl _) (sp_cong (fun k hk => if_neg (by omega)) hs)))
  · rw [if_neg (by omega)] at h0 hs
    rcases sp_new e (by omega) hs with h1 | h1
    · exact h m hm h0 (sp_but (by omega) h1)
    · by_cases e0 : t = 0
      · subst e0; rw [Nat.xor_zero] at h1; exact h m hm h0 (sp_but (by omega) h1)
      · refine ht e0 (sp_up (show m + 1 ≤ 4 by omega) (Or.inr ⟨by omega, h0, ?_⟩))
        rw [Nat.xor_comm]; exact h1
theorem lb_step_17 (x : XS) (y : MS) (a1 : Int32) (a2 : Int32) (a3 : Int32) (h : LInv x y) : ∃ bud, bud ≤ 49152 ∧ wpL_17 x y a1 a2 a3 bud (fun x9 y9 => LInv x9 y9 ∧ pot x + bud ≤ pot x9) := by
  refine ⟨0, by omega, ?_⟩
  obtain ⟨hB, hH, hP, hC⟩ := h
  obtain ⟨K, n, te, ti, wo, mk, c, pl, rd, hV, hD, hbg⟩ := BR_open hB
  have hV' := hV
  obtain ⟨⟨hK1, hK6⟩, ⟨hn1, hn5⟩, hte, hdi, hti, htz, htot, hwo, hin, hmk, hc, hpl, hrd⟩ := hV'
  have hD' := hD
  obtain ⟨d1, d2, d3, d4, d5, d6, d7, d8, d9, d10, d11⟩ := hD'
  have h64 := p64 hK6
  have hw6 : ∀ i, wo i < 64 := fun i => by have := hwo i; omega
  unfold wpL_17 wpX6_word
  -- refused ahead of the products
  have A : (a1 < 0 ∨ (4 : Int32) ≤ a1 ∨ (∀ j, j < 2 ^ K → a2 ≠ nI j) ∨ (a2 ≠ 0 ∧ a3 ≠ 1 ∧ a3 ≠ -1)) → wpM_17 y a1 a2 a3 0 (fun y9 => LInv x y9 ∧ pot x + 0 ≤ pot x) := by
    intro hb1
    unfold wpM_17 wpX7_word
    refine hbg _ (fun g b hb hG => ?_)
    have L : LInv x ((y.1.1, b, g, y.1.2.2.2), (0, y.2.1.2), y.2.2) := ⟨Or.inl ⟨hb, K, n, te, ti, wo, mk, c, pl, rd, hV, hD, hG⟩, hH, hP, hC⟩
    refine ⟨fun _ => ⟨fun _ => ⟨L, Nat.le_refl _⟩, fun z => z rfl⟩, fun z1 => ⟨fun _ => ⟨fun _ => ⟨L, Nat.le_refl _⟩, fun z => z rfl⟩, fun z2 => ?_⟩⟩
    refine wp_isM (by omega) hG.1 _ (fun j hj e => ⟨fun z => absurd z (by decide), fun _ => ?_⟩) (fun _ => ⟨fun _ => ⟨fun _ => ⟨L, Nat.le_refl _⟩, fun z => z rfl⟩, fun z => absurd rfl z⟩)
    rcases hb1 with h | h | h | ⟨h1, h2, h3⟩
    · exact absurd h z1
    · exfalso
      rw [Int32.lt_iff_toInt_lt] at z2
      rw [Int32.le_iff_toInt_le] at h
      have e3 : (3 : Int32).toInt = 3 := rfl
      have e4 : (4 : Int32).toInt = 4 := rfl
      omega
    · exact absurd e (h j hj)
    · exact ⟨fun z => absurd z h1, fun _ => ⟨fun z => absurd z h2, fun _ => ⟨fun z => absurd z h3, fun _ => ⟨fun _ => ⟨L, Nat.le_refl _⟩, fun z => z rfl⟩⟩⟩⟩
  refine ⟨fun z => A (Or.inl z), fun z1 => ⟨fun z => A (Or.inr (Or.inl z)), fun z2 => ?_⟩⟩
  obtain ⟨i, hi, rfl⟩ : ∃ i, i < 4 ∧ a1 = nI i := by
    rcases has_cases a1 (n := 4) (by omega) with h | h | h
    · exact h
    · exact absurd h z1
    · exact absurd h z2
  have z3' : ¬ (3 : Int32) < nI i := by
    show ¬ nI 3 < nI i
    exact nI_nlt (by omega) (by omega)
  have hbut : ∀ k, k < 4 → (nI k = nI i ↔ k = i) := fun k hk => nI_eq (by omega) (by omega)
  refine wp_hasX (by omega) d1 a2 (fun t ht et => ⟨fun z => absurd z (by decide), fun _ => ?_⟩) (fun hno => ⟨fun _ => A (Or.inr (Or.inr (Or.inl hno))), fun z => absurd rfl z⟩)
  subst et
  -- what a done call does
  have D : ((t = 0) ∨ ((a3 = 1 ∨ a3 = -1) ∧ ¬ sp wo i 4 t)) → ∀ (h p : Nat), h ≤ 8 → p < 8 → x.2.1.1 = nI h → x.2.1.2.1 = nI p → y.1.1 = nI h → (∀ j, j < h → RR (x.2.1.2.2 ((p + 8 - h + j) % 8)) (fun i => y.1.2.2.2 (202 * j + i))) → wpM_17 y (nI i) (nI t) a3 1 (fun y9 => LInv ((x.1.1, x.1.2.1, x.1.2.2.1, x.1.2.2.2.1, x.1.2.2.2.2.1, x.1.2.2.2.2.2.1, x.1.2.2.2.2.2.2.1, upd x.1.2.2.2.2.2.2.2.1 i (nI t), upd x.1.2.2.2.2.2.2.2.2.1 i a3, x.1.2.2.2.2.2.2.2.2.2), (nI (min (h + 1) 8), nI ((p + 1) % 8), va_up x.2.1.2.2 p x.1), x.2.2) y9 ∧ pot x + 0 ≤ pot x) := by
    intro hok h p hh hp e1 e2 e3 hjj
    have hdone : ∀ g b, b ≠ 0 → RG g K n te ti wo mk c pl rd → ∀ (q : Int32) (pr : Nat → Int32) (kk : Int32 → Int32 → (Nat → Int32) → (Nat → Int32) → Int32 → Int32 → Int32 → (Nat → Int32) → Prop), (∀ g' kept' ks', RR (x.1.1, x.1.2.1, x.1.2.2.1, x.1.2.2.2.1, x.1.2.2.2.2.1, x.1.2.2.2.2.2.1, x.1.2.2.2.2.2.2.1, upd x.1.2.2.2.2.2.2.2.1 i (nI t), upd x.1.2.2.2.2.2.2.2.2.1 i a3, x.1.2.2.2.2.2.2.2.2.2) g' → HI (nI (min (h + 1) 8), nI ((p + 1) % 8), va_up x.2.1.2.2 p x.1) ks' kept' → kk 1 0 g' kept' ks' b q pr) → wjX7_word_59 y.1.1 y.1.2.2.2 (nI i) (nI t) a3 kk g b q pr := by
      intro g b hb hG q pr kk hkk
      have hR : RR x.1 g := ⟨K, n, te, ti, wo, mk, c, pl, rd, hV, hD, hG⟩
      obtain ⟨g1, g2, g3, g4, g5, g6, g7, g8, g9⟩ := hG
      unfold wjX7_word_59
      refine wp_keepM hh e3 (fun kept' hk => ?_)
      rw [show (71 : Int32) + nI i = nI (71 + i) from nI_add 71 i, show (75 : Int32) + nI i = nI (75 + i) from nI_add 75 i, nI_clamp (by omega), nI_clamp (by omega)]
      have mkz : t ≠ 0 → ∃ z : Int, (z = 1 ∨ z = -1) ∧ a3 = iI z := fun h0 => by
        rcases hok with h | ⟨h | h, _⟩
        · exact absurd h h0
        · exact ⟨1, Or.inl rfl, h⟩
        · exact ⟨-1, Or.inr rfl, h⟩
      have fin : ∀ v : Int32, (t ≠ 0 → v = a3) → kk 1 0 (upd (upd g (71 + i) (nI t)) (75 + i) v) kept' (nI (min (h + 1) 8)) b q pr := by
        intro v hv
        refine hkk _ _ _ ?_ (HI_keep hh hp hjj hR hk)
        obtain ⟨zz, hz1, hz2⟩ : ∃ z : Int, (z = 1 ∨ z = -1) ∧ (t ≠ 0 → a3 = iI z) := by
          by_cases h0 : t = 0
          · exact ⟨1, Or.inl rfl, fun z => absurd h0 z⟩
          · obtain ⟨z, h1, h2⟩ := mkz h0
            exact ⟨z, h1, fun _ => h2⟩
        have G : ∀ q, q ≠ 71 + i → q ≠ 75 + i → upd (upd g (71 + i) (nI t)) (75 + i) v q = g q := fun q h1 h2 => by rw [pk_un h2, pk_un h1]
        refine ⟨K, n, te, ti, fun k => if k = i then t else wo k, fun k => if k = i then zz else mk k, c, pl, rd, ⟨⟨hK1, hK6⟩, ⟨hn1, hn5⟩, hte, hdi, hti, htz, htot, fun k => ?_, IN_word hin hi (fun h0 => ?_), fun k => ?_, hc, hpl, hrd⟩, ⟨d1, d2, d3, d4, d5, d6, d7, fun k hk => ?_, fun k hk h0 => ?_, d10, d11⟩, ⟨?_, ?_, fun k hk => ?_, fun s hs => ?_, fun k hk => ?_, fun k hk h0 => ?_, ?_, fun s hs => ?_, fun s hs => ?_⟩⟩
        · dsimp only; split
          · exact ht
          · exact hwo k
        · rcases hok with h | ⟨_, h⟩
          · exact absurd h h0
          · exact h
        · dsimp only; split
          · exact hz1
          · exact hmk k
        · dsimp only
          by_cases e : k = i
          · subst e; rw [if_pos rfl, pk_us]
          · rw [if_neg e, pk_un e, d8 k hk]
        · dsimp only at h0 ⊢
          by_cases e : k = i
          · subst e; rw [if_pos rfl] at h0 ⊢; rw [pk_us]; exact hz2 h0
          · rw [if_neg e] at h0 ⊢; rw [pk_un e]; exact d9 k hk h0
        · rw [G _ (by omega) (by omega), g1]
        · rw [G _ (by omega) (by omega), g2]
        · rw [G _ (by omega) (by omega), g3 k hk]
        · rw [G _ (by omega) (by omega), g4 s hs]
        · dsimp only
          by_cases e : k = i
          · subst e; rw [if_pos rfl, pk_un (by omega), pk_us]
          · rw [if_neg e, G _ (by omega) (by omega), g5 k hk]
        · dsimp only at h0 ⊢
          by_cases e : k = i
          · subst e; rw [if_pos rfl] at h0 ⊢; rw [pk_us, hv h0]; exact hz2 h0
          · rw [if_neg e] at h0 ⊢; rw [G _ (by omega) (by omega)]; exact g6 k hk h0
        · rw [G _ (by omega) (by omega), g7]
        · rw [G _ (by omega) (by omega), g8 s hs]
        · rw [G _ (by omega) (by omega), g9 s hs]
      exact ⟨vp_in_nI (by omega) (by omega), fun z => ⟨vp_in_nI (by omega) (by omega), fin _ (fun h0 => absurd z (nI_ne0 (Nat.pos_of_ne_zero h0) (by omega)))⟩, fun z => ⟨vp_in_nI (by omega) (by omega), fin _ (fun _ => rfl)⟩⟩
    unfold wpM_17 wpX7_word
    refine hbg _ (fun g b hb hG => ⟨fun z => absurd z z1, fun _ => ⟨fun z => absurd z z3', fun _ => ?_⟩⟩)
    refine wp_isM (by omega) hG.1 _ (fun _ _ _ => ⟨fun z => absurd z (by decide), fun _ => ?_⟩) (fun hno => absurd rfl (hno t ht))
    refine ⟨fun _ => hdone g b hb hG _ _ _ (fun g' kept' ks' hR' hH' => ⟨fun _ => ⟨⟨Or.inl ⟨hb, hR'⟩, hH', hP, hC⟩, Nat.le_refl _⟩, fun z => z rfl⟩), fun z0 => ?_⟩
    have h0 : t ≠ 0 := fun e => by subst e; exact z0 rfl
    obtain ⟨ha3, hns⟩ : (a3 = 1 ∨ a3 = -1) ∧ ¬ sp wo i 4 t := by
      rcases hok with h | h
      · exact absurd h h0
      · exact h
    have J : ∀ kk : Int32 → Int32 → (Nat → Int32) → (Nat → Int32) → Int32 → Int32 → Int32 → (Nat → Int32) → Prop, (∀ q pr g' kept' ks', RR (x.1.1, x.1.2.1, x.1.2.2.1, x.1.2.2.2.1, x.1.2.2.2.2.1, x.1.2.2.2.2.2.1, x.1.2.2.2.2.2.2.1, upd x.1.2.2.2.2.2.2.2.1 i (nI t), upd x.1.2.2.2.2.2.2.2.2.1 i a3, x.1.2.2.2.2.2.2.2.2.2) g' → HI (nI (min (h + 1) 8), nI ((p + 1) % 8), va_up x.2.1.2.2 p x.1) ks' kept' → kk 1 0 g' kept' ks' b q pr) → wjX7_word_44 y.1.1 (y.2.2.2.1.1) y.1.2.2.2 (y.2.2.2.1.2.1) (nI i) (nI t) a3 kk g b := by
      intro kk hkk
      unfold wjX7_word_44
      refine wp_mult hw6 hG.2.2.2.2.1 hbut (fun f hf => ?_)
      refine wp_isProdS hw6 (by omega) hf (fun hs => absurd hs hns) (fun _ => ⟨fun _ => ?_, fun z => absurd rfl z⟩)
      exact hdone g b hb hG _ _ _ (fun g' kept' ks' hR' hH' => hkk _ _ g' kept' ks' hR' hH')
    refine ⟨fun _ => J _ (fun q pr g' kept' ks' hR' hH' => ⟨fun _ => ⟨⟨Or.inl ⟨hb, hR'⟩, hH', hP, hC⟩, Nat.le_refl _⟩, fun z => z rfl⟩), fun z1 => ⟨fun _ => J _ (fun q pr g' kept' ks' hR' hH' => ⟨fun _ => ⟨⟨Or.inl ⟨hb, hR'⟩, hH', hP, hC⟩, Nat.le_refl _⟩, fun z => z rfl⟩), fun z2 => ?_⟩⟩
    rcases ha3 with h | h
    · exact absurd h z1
    · exact absurd h z2
  have fin : ((t = 0) ∨ ((a3 = 1 ∨ a3 = -1) ∧ ¬ sp wo i 4 t)) → wjX6_word_53 (x.1.1) (x.1.2.1) (x.1.2.2.1) (x.1.2.2.2.1) (x.1.2.2.2.2.1) (x.1.2.2.2.2.2.1) (x.1.2.2.2.2.2.2.1) (x.1.2.2.2.2.2.2.2.1) (x.1.2.2.2.2.2.2.2.2.1) (x.1.2.2.2.2.2.2.2.2.2.1) (x.1.2.2.2.2.2.2.2.2.2.2) (x.2.1.1) (x.2.1.2.1) (x.2.1.2.2) (nI i) (nI t) a3 (fun r c0 c1 c2 c3 c4 => wpM_17 y (nI i) (nI t) a3 r (fun y9 => LInv ((x.1.1, x.1.2.1, x.1.2.2.1, x.1.2.2.2.1, x.1.2.2.2.2.1, x.1.2.2.2.2.2.1, x.1.2.2.2.2.2.2.1, c0, c1, x.1.2.2.2.2.2.2.2.2.2), (c2, c3, c4), x.2.2) y9 ∧ pot x + 0 ≤ pot x)) := by
    intro hok
    obtain ⟨h, p, hh, hp, e1, e2, e3, hjj⟩ := hH
    unfold wjX6_word_53
    refine wp_keepX hh hp e1 e2 ?_
    rw [nI_clamp (by omega)]
    exact ⟨vp_in_nI (by omega) (by omega), vp_in_nI (by omega) (by omega), D hok h p hh hp e1 e2 e3 hjj⟩
  have J : (a3 = 1 ∨ a3 = -1) → t ≠ 0 → wjX6_word_36 (x.1.1) (x.1.2.1) (x.1.2.2.1) (x.1.2.2.2.1) (x.1.2.2.2.2.1) (x.1.2.2.2.2.2.1) (x.1.2.2.2.2.2.2.1) (x.1.2.2.2.2.2.2.2.1) (x.1.2.2.2.2.2.2.2.2.1) (x.1.2.2.2.2.2.2.2.2.2.1) (x.1.2.2.2.2.2.2.2.2.2.2) (x.2.1.1) (x.2.1.2.1) (x.2.1.2.2) (nI i) (nI t) a3 (fun r c0 c1 c2 c3 c4 => wpM_17 y (nI i) (nI t) a3 r (fun y9 => LInv ((x.1.1, x.1.2.1, x.1.2.2.1, x.1.2.2.2.1, x.1.2.2.2.2.1, x.1.2.2.2.2.2.1, x.1.2.2.2.2.2.2.1, c0, c1, x.1.2.2.2.2.2.2.2.2.2), (c2, c3, c4), x.2.2) y9 ∧ pot x + 0 ≤ pot x)) := by
    intro ha3 h0
    unfold wjX6_word_36
    refine wp_prods hw6 d8 hbut (fun P hPb => ?_)
    refine wp_hasMem P (show t < 64 by omega) (fun hb => ⟨fun z => absurd z (by decide), fun _ => ?_⟩) (fun hb => ⟨fun _ => fin (Or.inr ⟨ha3, fun hs => ?_⟩), fun z => absurd rfl z⟩)
    · have hs := (hPb t (by omega)).1 hb
      unfold wpM_17 wpX7_word
      refine hbg _ (fun g b hb hG => ⟨fun z => absurd z z1, fun _ => ⟨fun z => absurd z z3', fun _ => ?_⟩⟩)
      refine wp_isM (by omega) hG.1 _ (fun _ _ _ => ⟨fun z => absurd z (by decide), fun _ => ?_⟩) (fun hno => absurd rfl (hno t ht))
      have J2 : ∀ kk : Int32 → Int32 → (Nat → Int32) → (Nat → Int32) → Int32 → Int32 → Int32 → (Nat → Int32) → Prop, (∀ q pr, kk 0 0 g y.1.2.2.2 y.1.1 b q pr) → wjX7_word_44 y.1.1 (y.2.2.2.1.1) y.1.2.2.2 (y.2.2.2.1.2.1) (nI i) (nI t) a3 kk g b := by
        intro kk hkk
        unfold wjX7_word_44
        refine wp_mult hw6 hG.2.2.2.2.1 hbut (fun f hf => ?_)
        exact wp_isProdS hw6 (by omega) hf (fun _ => ⟨fun z => absurd z (by decide), fun _ => hkk _ _⟩) (fun hn => absurd hs hn)
      refine ⟨fun z => absurd z (nI_ne0 (Nat.pos_of_ne_zero h0) (by omega)), fun _ => ⟨fun _ => ?_, fun z1 => ⟨fun _ => ?_, fun z2 => ?_⟩⟩⟩
      · exact J2 _ (fun q pr => ⟨fun _ => ⟨⟨Or.inl ⟨hb, K, n, te, ti, wo, mk, c, pl, rd, hV, hD, hG⟩, hH, hP, hC⟩, Nat.le_refl _⟩, fun z => z rfl⟩)
      · exact J2 _ (fun q pr => ⟨fun _ => ⟨⟨Or.inl ⟨hb, K, n, te, ti, wo, mk, c, pl, rd, hV, hD, hG⟩, hH, hP, hC⟩, Nat.le_refl _⟩, fun z => z rfl⟩)
      · rcases ha3 with h | h
        · exact absurd h z1
        · exact absurd h z2
    · rw [(hPb t (by omega)).2 hs] at hb; exact absurd hb (by decide)
  refine ⟨fun z => fin (Or.inl (Classical.byContradiction (fun h0 => nI_ne0 (Nat.pos_of_ne_zero h0) (show t < 2 ^ 31 by omega) z))), fun z0 => ?_⟩
  have h0 : t ≠ 0 := fun e => by subst e; exact z0 rfl
  exact ⟨fun za => J (Or.inl za) h0, fun za => ⟨fun zb => J (Or.inr zb) h0, fun zb => A (Or.inr (Or.inr (Or.inr ⟨z0, za, zb⟩)))⟩⟩
