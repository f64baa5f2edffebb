/-! parts: both find the same -/
theorem GI_cnt {K k : Nat} {u : Nat → Nat} (hu : TW k u) (hk : k ≤ 4) (hub : ∀ i, u i < 2 ^ K) {X c : Nat} {b : Nat → Nat} (h : GI (sp u 4 4) X c b) (hc : c ≤ 4) (hX : X ≤ 2 ^ K) (hm : sp u 4 4 X) (hn : ¬ sp b 4 c X) : c < 4 ∧ c < k := by
  obtain ⟨h1, h2⟩ := GI_le hu hk hub h hc hX
  have : c ≠ k := fun z => hn (h2 z X hm)
  omega
theorem wp_greedy {K k : Nat} (hK : K ≤ 6) (hk : k ≤ 4) {u : Nat → Nat} (hu : TW k u) (hub : ∀ i, u i < 2 ^ K) {g : Nat → Int32} (hg : g 0 = nI K) {br bh tr kept' prd bw : Nat → Int32} {ks' b2 : Int32} (hbh : ∀ x, x < 64 → (sp u 4 4 x → bh x = 1) ∧ (¬ sp u 4 4 x → bh x = 0)) (hbw : ∀ i, i < 4 → k ≤ i → bw i = 0) {KK : Int32 → Int32 → (Nat → Int32) → (Nat → Int32) → Int32 → Int32 → Int32 → (Nat → Int32) → (Nat → Int32) → (Nat → Int32) → (Nat → Int32) → (Nat → Int32) → Prop} (h : ∀ pr' prd' bw' b, GI (sp u 4 4) (2 ^ K) k b → (∀ t, sp u 4 4 t ↔ sp b 4 4 t) → (∀ i, i < 4 → bw' i = nI (b i)) → wjX7_bestPart_310 KK g b2 br bh tr kept' ks' pr' prd' bw') : wloop (wbX7_bestPart_252 KK g b2 br bh tr kept' ks') ((0 : Int32), (1 : Int32), (1 : Int32), upd prd 0 (0 : Int32), bw) := by
  have h64 := p64 hK
  have hp0 := Nat.two_pow_pos K
  refine wloop_n (fun i st => ∃ c b f w, st = (nI c, nI (1 + i), nI (2 ^ c), f, w) ∧ c ≤ 4 ∧ c ≤ k ∧ GI (sp u 4 4) (1 + i) c b ∧ (∀ j, j < 2 ^ c → f j = nI (pf b 4 c j)) ∧ (∀ j, j < c → w j = nI (b j)) ∧ ∀ j, j < 4 → k ≤ j → w j = 0) (2 ^ K - 1) ⟨0, fun _ => 0, upd prd 0 0, bw, rfl, by omega, by omega, GI_skip (GI_0 _) (fun _ => sp_zero 0), fun j hj => ?_, fun j hj => absurd hj (Nat.not_lt_zero _), hbw⟩ ?_ ?_
  · have e : j = 0 := by rw [Nat.pow_zero] at hj; omega
    subst e; rw [pk_us]; rfl
  · rintro i st again hi ⟨c, b, f, w, rfl, hc4, hck, hG, hf, hw, hwz⟩ hag
    have hb6 : ∀ i, b i < 64 := fun q => by
      rcases Nat.lt_or_ge q c with hq | hq
      · have := (hG.2.1 q hq).1; omega
      · rw [hG.1.2.1 q hq]; decide
    have skip : (sp u 4 4 (1 + i) → sp b 4 c (1 + i)) → again (nI c, nI (1 + i + 1), nI (2 ^ c), f, w) := fun hs => hag _ ⟨c, b, f, w, by rw [Nat.add_assoc], hc4, hck, by rw [← Nat.add_assoc]; exact GI_skip hG hs, hf, hw, hwz⟩
    rw [wbX7_bestPart_252, nI_clamp (show 1 + i < 2 ^ 31 by omega), nI_1]
    refine wp_settM (by omega) hg (pk_le (2 ^ K) (1 + i) (fun z => absurd z (by omega)) (fun _ => ⟨vp_in_nI (by omega) (by omega), ?_⟩))
    by_cases cu : sp u 4 4 (1 + i)
    · rw [(hbh (1 + i) (by omega)).1 cu]
      refine ⟨fun z => absurd z (by decide), fun _ => wp_isPk hG.1 hc4 hb6 (by omega) hf (fun hs => ⟨fun z => absurd z (by decide), fun _ => skip (fun _ => hs)⟩) (fun hs => ⟨fun _ => ?_, fun z => absurd rfl z⟩)⟩
      obtain ⟨q1, q2⟩ := GI_cnt hu hk hub hG hc4 (by omega) cu hs
      refine wp_joins q1 (pf_lt hb6 4 c) (by omega) hf (fun f' hf' => ⟨vp_in_nI (by omega) (by omega), ?_⟩)
      rw [nI_clamp (show c < 2 ^ 31 by omega), nI_1]
      have hG2 := GI_add hG q1 cu hs
      refine hag _ ⟨c + 1, apd b c (1 + i), f', upd w c (nI (1 + i)), by rw [Nat.add_assoc], by omega, by omega, by rw [← Nat.add_assoc]; exact hG2, fun j hj => ?_, fun j hj => ?_, fun j hj hj2 => ?_⟩
      · rw [hf' j hj, pf_pre q1 (fun j hj => hG2.1.1 j hj), apd_s, pf_cong (u := apd b c (1 + i)) (v := b) (a := c) (fun q hq => apd_n (by omega)), pf_cong (u := apd b c (1 + i)) (v := b) (a := c) (fun q hq => apd_n (by omega))]
      · by_cases e : j = c
        · subst e; rw [pk_us, apd_s]
        · rw [pk_un e, apd_n e]; exact hw j (by omega)
      · rw [pk_un (by omega)]; exact hwz j hj hj2
    · rw [(hbh (1 + i) (by omega)).2 cu]
      exact ⟨fun _ => skip (fun z => absurd z cu), fun z => absurd rfl z⟩
  · rintro st again ⟨c, b, f, w, rfl, hc4, hck, hG, hf, hw, hwz⟩
    rw [show 1 + (2 ^ K - 1) = 2 ^ K by omega] at hG ⊢
    obtain ⟨e, heq⟩ := GI_all hu hk hub hG hc4
    subst e
    rw [wbX7_bestPart_252]
    refine wp_settM (by omega) hg (pk_le (2 ^ K) (2 ^ K) (fun _ => h _ _ _ b hG heq (fun i hi => ?_)) (fun z => absurd z (by omega)))
    rcases Nat.lt_or_ge i c with hi2 | hi2
    · exact hw i hi2
    · rw [hwz i hi hi2, hG.1.2.1 i hi2]; rfl
theorem wp_put {b : Nat → Nat} (hb6 : ∀ i, b i < 64) {g br bh tr kept' prd bw : Nat → Int32} {ks' b2 pr : Int32} (hbw : ∀ i, i < 4 → bw i = nI (b i)) {KK : Int32 → Int32 → (Nat → Int32) → (Nat → Int32) → Int32 → Int32 → Int32 → (Nat → Int32) → (Nat → Int32) → (Nat → Int32) → (Nat → Int32) → (Nat → Int32) → Prop} (h : ∀ g', (∀ i, i < 4 → g' (71 + i) = nI (b i)) → (∀ i, i < 4 → b i ≠ 0 → g' (75 + i) = 1) → (∀ q, q < 71 ∨ 79 ≤ q → g' q = g q) → KK 1 0 g' kept' ks' b2 pr prd br bh bw tr) : wjX7_bestPart_310 KK g b2 br bh tr kept' ks' pr prd bw := by
  unfold wjX7_bestPart_310
  refine wloop_n (fun i st => ∃ f, st = (nI i, f) ∧ (∀ j, j < i → f (71 + j) = nI (b j)) ∧ (∀ j, j < i → b j ≠ 0 → f (75 + j) = 1) ∧ ∀ q, q < 71 ∨ 79 ≤ q → f q = g q) 4 ⟨g, rfl, fun j hj => absurd hj (Nat.not_lt_zero _), fun j hj => absurd hj (Nat.not_lt_zero _), fun _ _ => rfl⟩ ?_ ?_
  · rintro i st again hi ⟨f, rfl, h1, h2, h3⟩ hag
    have hbi := hb6 i
    rw [wbX7_bestPart_313, show (71 : Int32) + nI i = nI (71 + i) from nI_add 71 i, show (75 : Int32) + nI i = nI (75 + i) from nI_add 75 i, nI_clamp (show i < 2 ^ 31 by omega), nI_clamp (show 71 + i < 2 ^ 31 by omega), nI_clamp (show 75 + i < 2 ^ 31 by omega), hbw i hi, nI_1]
    refine pk_le 4 i (fun z => absurd z (by omega)) (fun _ => ⟨vp_in_nI (by omega) (by omega), vp_in_nI (by omega) (by omega), vp_in_nI (by omega) (by omega), pk_eq (b i) 0 (fun z => ⟨vp_in_nI (by omega) (by omega), hag _ ⟨_, rfl, fun j hj => ?_, fun j hj hj0 => ?_, fun q hq => ?_⟩⟩) (fun z => ⟨vp_in_nI (by omega) (by omega), hag _ ⟨_, rfl, fun j hj => ?_, fun j hj hj0 => ?_, fun q hq => ?_⟩⟩)⟩)
    · rw [pk_un (by omega)]
      by_cases e : j = i
      · subst e; rw [pk_us]
      · rw [pk_un (by omega)]; exact h1 j (by omega)
    · have e : j ≠ i := fun e => hj0 (by rw [e]; exact z)
      rw [pk_un (by omega), pk_un (by omega)]; exact h2 j (by omega) hj0
    · rw [pk_un (by omega), pk_un (by omega)]; exact h3 q hq
    · rw [pk_un (by omega)]
      by_cases e : j = i
      · subst e; rw [pk_us]
      · rw [pk_un (by omega)]; exact h1 j (by omega)
    · by_cases e : j = i
      · subst e; rw [pk_us]
      · rw [pk_un (by omega), pk_un (by omega)]; exact h2 j (by omega) hj0
    · rw [pk_un (by omega), pk_un (by omega)]; exact h3 q hq
  · rintro st again ⟨f, rfl, h1, h2, h3⟩
    rw [wbX7_bestPart_313]
    exact pk_le 4 4 (fun _ => h f h1 h2 h3) (fun z => absurd z (by omega))
theorem rwn_span {K k : Nat} (hK : K ≤ 6) {v u : Nat → Nat} (hv : TW k v) (hu : TW k u) (hk : k ≤ 4) (hvb : ∀ i, v i < 2 ^ K) (hub : ∀ i, u i < 2 ^ K) (h : ∀ t, sp v 4 4 t ↔ sp u 4 4 t) : rwn v k = rwn u k := by
  rw [(rwn_row hK hv hk hvb).1, (rwn_row hK hu hk hub).1, ROW_eq hv hu hk hvb hub h 1, ROW_eq hv hu hk hvb hub h 2, ROW_eq hv hu hk hvb hub h 3, ROW_eq hv hu hk hvb hub h 4, ROW_eq hv hu hk hvb hub h 5, ROW_eq hv hu hk hvb hub h 6]
theorem sp_self {k : Nat} {u : Nat → Nat} (hu : TW k u) (hk : k ≤ 4) {j : Nat} (hj : j < k) : sp u 4 4 (u j) := by
  refine sp_up (m := j + 1) (by omega) (Or.inr ⟨by omega, hu.1 j hj, ?_⟩)
  rw [Nat.xor_self]; exact sp_zero j
theorem lb_of {S k : Nat} {u : Nat → Nat} (h : TW k u) (hS : 0 < S) (hb : ∀ i, i < k → u i < S) (i : Nat) : u i < S := by
  rcases Nat.lt_or_ge i k with hi | hi
  · exact hb i hi
  · rw [h.2.1 i hi]; exact hS
theorem part_same {K k : Nat} (hK : K ≤ 6) (hk : k ≤ 4) {u w b : Nat → Nat} (hu : BB (2 ^ K) k u) (hw : VTs (2 ^ K) k w) (hbest : ∀ v, VTs (2 ^ K) k v → ¬ RBT (2 ^ K) k v w) (hG : GI (sp w 4 4) (2 ^ K) k b) (heq : ∀ t, sp w 4 4 t ↔ sp b 4 4 t) : b = u := by
  have h64 := p64 hK
  have hp0 := Nat.two_pow_pos K
  obtain ⟨hR, hmin, hlex⟩ := hu
  obtain ⟨uT, uI⟩ := RB_TW h64 hR
  have uS : ∀ i, i < k → u i < 2 ^ K := fun i hi => (hR.1 i hi).2.2.1
  have uB := lb_of uT hp0 uS
  have wB := lb_of hw.1 hp0 hw.2.1
  have cloW : CLO (sp w 4 4) := ⟨sp_zero 4, fun a b ha hb => sp_xor ha hb⟩
  have cloU : CLO (sp u 4 4) := ⟨sp_zero 4, fun a b ha hb => sp_xor ha hb⟩
  have bR := GI_RB h64 cloW hG
  have bB := lb_of hG.1 hp0 (fun i hi => (hG.2.1 i hi).1)
  have e1 : rwn w k = rwn b k := rwn_span hK hw.1 hG.1 hk wB bB heq
  have n1 := hbest u ⟨uT, uS, uI⟩
  have m1 := hmin b bR
  have e2 : rwn u k = rwn w k := by
    rcases Nat.lt_or_ge (rwn u k) (rwn w k) with z | z
    · exact absurd (Or.inl z) n1
    · omega
  have n2 : ¬ MLX (2 ^ K) u w := fun z => n1 (Or.inr ⟨e2, z⟩)
  have n3 : ¬ lexgt u b := hlex b bR (by omega)
  -- the class's words are greedy
  obtain ⟨c, b', hc4, hG'⟩ := GI_ex uT hk uB (2 ^ K) (Nat.le_refl _)
  obtain ⟨ec, heq'⟩ := GI_all uT hk uB hG' hc4
  subst ec
  have b'R := GI_RB h64 cloU hG'
  have b'B := lb_of hG'.1 hp0 (fun i hi => (hG'.2.1 i hi).1)
  have e3 : rwn u c = rwn b' c := rwn_span hK uT hG'.1 hk uB b'B heq'
  have n4 : ¬ lexgt u b' := hlex b' b'R (by omega)
  have big : ∀ {d : Nat → Nat} {M : Nat → Prop}, GI M (2 ^ K) c d → lexgt d u → ∃ j, j < c ∧ (∀ i, i < j → d i = u i) ∧ u j < d j := fun {d M} hd hl => by
    obtain ⟨j, j1, j2⟩ := hl
    refine ⟨j, ?_, j1, j2⟩
    rcases Nat.lt_or_ge j c with q | q
    · exact q
    · rw [hd.1.2.1 j q] at j2; exact absurd j2 (Nat.not_lt_zero _)
  have eu : b' = u := by
    rcases lex_tot (S := c) hG'.1.2.1 uT.2.1 with q | q | q
    · exact q
    · obtain ⟨j, j0, j1, j2⟩ := big hG' q
      have := hG'.2.2.2.1 j j0 (u j) j2 (sp_self uT hk j0)
      exact absurd (sp_cong (fun i hi => j1 i hi) this) (uT.2.2 j j0)
    · exact absurd q n4
  subst eu
  rcases lex_tot (S := c) hG.1.2.1 uT.2.1 with q | q | q
  · exact q
  · exfalso
    obtain ⟨j, j0, j1, j2⟩ := big hG q
    have up : ∀ y, sp b 4 j y → sp b' 4 j y := fun y hy => sp_cong (fun i hi => j1 i hi) hy
    have dn : ∀ y, sp b' 4 j y → sp b 4 j y := fun y hy => sp_cong (fun i hi => (j1 i hi).symm) hy
    refine n2 ⟨b' j, by have := uT.1 j j0; omega, uS j j0, fun y _ hy => ⟨fun z => ?_, fun z => ?_⟩, sp_self uT hk j0, fun z => ?_⟩
    · exact (heq y).2 (sp_up (by omega) (dn y (hG'.2.2.2.1 j j0 y hy z)))
    · exact sp_up (by omega) (up y (hG.2.2.2.1 j j0 y (by omega) z))
    · exact uT.2.2 j j0 (up _ (hG.2.2.2.1 j j0 _ j2 z))
  · exact absurd q n3
