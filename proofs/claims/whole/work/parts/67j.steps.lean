/-! the steps: see, forget -/
theorem lb_step_25 (x : XS) (y : MS) (a1 : Int32) (a2 : Int32) (h : LInv x y) : ∃ bud, bud ≤ 49152 ∧ wpL_25 x y a1 a2 bud (fun x9 y9 => LInv x9 y9 ∧ pot x + bud ≤ pot x9) := by
  refine ⟨0, by omega, ?_⟩
  obtain ⟨hB, hH, hP, hC⟩ := h
  obtain ⟨K, n, te, ti, wo, mk, c, pl, rd, hV, hD, hbg⟩ := BR_open hB
  have hV' := hV
  obtain ⟨⟨hK1, hK6⟩, ⟨hn1, hn5⟩, hte, hdi, hti, htz, htot, hwo, hin, hmk, hc, hpl, hrd⟩ := hV'
  have hD' := hD
  obtain ⟨d1, d2, d3, d4, d5, d6, d7, d8, d9, d10, d11⟩ := hD'
  have h64 := p64 hK6
  unfold wpL_25 wpX6_see
  have A : ((∀ j, j < 2 ^ K → a1 ≠ nI j) ∨ a2 < -1000 ∨ 1000 < a2 ∨ c = 60) → wpM_25 y a1 a2 (-1) (fun y9 => LInv x y9 ∧ pot x + 0 ≤ pot x) := by
    intro hb1
    unfold wpM_25 wpX7_see
    refine hbg _ (fun g b hb hG => ?_)
    have L : LInv x ((y.1.1, b, g, y.1.2.2.2), (0, y.2.1.2), y.2.2) := ⟨Or.inl ⟨hb, K, n, te, ti, wo, mk, c, pl, rd, hV, hD, hG⟩, hH, hP, hC⟩
    refine wp_isM (by omega) hG.1 _ (fun j hj e => ?_) (fun _ => ⟨fun _ => ⟨fun _ => ⟨L, Nat.le_refl _⟩, fun z => z rfl⟩, fun z => absurd rfl z⟩)
    refine ⟨fun z => absurd z (by decide), fun _ => ⟨fun _ => ⟨fun _ => ⟨L, Nat.le_refl _⟩, fun z => z rfl⟩, fun z1 => ⟨fun _ => ⟨fun _ => ⟨L, Nat.le_refl _⟩, fun z => z rfl⟩, fun z2 => ⟨fun _ => ⟨fun _ => ⟨L, Nat.le_refl _⟩, fun z => z rfl⟩, fun z3 => ?_⟩⟩⟩⟩
    rcases hb1 with h | h | h | h
    · exact absurd e (h j hj)
    · exact absurd h z1
    · exact absurd h z2
    · subst h; exact absurd hG.2.2.2.2.2.2.1 z3
  refine wp_hasX (by omega) d1 a1 (fun j hj ea => ?_) (fun hno => ⟨fun _ => A (Or.inl hno), fun z => absurd rfl z⟩)
  subst ea
  refine ⟨fun z => absurd z (by decide), fun _ => ⟨fun z => A (Or.inr (Or.inl z)), fun z1 => ⟨fun z2 => ⟨fun z3 => ?_, fun z3 => A (Or.inr (Or.inr (Or.inr ?_)))⟩, fun z2 => A (Or.inr (Or.inr (Or.inl (Int32.not_le.1 z2))))⟩⟩⟩
  · have hc60 : c < 60 := by
      rw [d4] at z3
      rcases Nat.lt_or_ge c 60 with h | h
      · exact h
      · exact absurd z3 (nI_nlt h (by omega))
    obtain ⟨z, hz1, hz2, rfl⟩ : ∃ z : Int, -1000 ≤ z ∧ z ≤ 1000 ∧ a2 = iI z := by
      refine ⟨a2.toInt, ?_, ?_, (Int32.ofInt_toInt a2).symm⟩
      · rw [Int32.lt_iff_toInt_lt] at z1
        have : (-1000 : Int32).toInt = -1000 := rfl
        omega
      · rw [Int32.le_iff_toInt_le] at z2
        have : (1000 : Int32).toInt = 1000 := rfl
        omega
    have hzz : (z * z).natAbs ≤ 1000000 := by
      rw [Int.natAbs_mul]
      have : z.natAbs ≤ 1000 := by omega
      exact Nat.le_trans (Nat.mul_le_mul this this) (by omega)
    obtain ⟨h, p, hh, hp, e1, e2, e3, hjj⟩ := hH
    refine wp_keepX hh hp e1 e2 ?_
    unfold wpX1_seeOne
    rw [nI_clamp (by omega), d10 j (by omega), d11 j (by omega), iI_mul, iI_l (by omega) (by omega), d4, nI_1, nI_1, d5, lI_add, iI_add]
    refine ⟨vp_in_nI (by omega) (by omega), vp_in_nI (by omega) (by omega), vp_in_nI (by omega) (by omega), vp_in_nI (by omega) (by omega), ?_⟩
    unfold wpM_25 wpX7_see
    refine hbg _ (fun g b hb hG => ?_)
    have hR : RR x.1 g := ⟨K, n, te, ti, wo, mk, c, pl, rd, hV, hD, hG⟩
    obtain ⟨g1, g2, g3, g4, g5, g6, g7, g8, g9⟩ := hG
    refine wp_isM (by omega) g1 _ (fun j' hj' e => ?_) (fun hn => absurd rfl (hn j hj))
    rw [g7]
    refine ⟨fun z => absurd z (by decide), fun _ => ⟨fun z => absurd z z1, fun _ => ⟨fun z => absurd z (Int32.not_lt.2 z2), fun _ => pk_eq c 60 (fun z => absurd z (by omega)) (fun _ => ?_)⟩⟩⟩
    refine wp_keepM hh e3 (fun kept' hk => ?_)
    rw [show (80 : Int32) + nI c = nI (80 + c) from nI_add 80 c, nI_clamp (show 80 + c < 2 ^ 31 by omega), pk_un (show (79 : Nat) ≠ 80 + c by omega), g7, show (140 : Int32) + nI c = nI (140 + c) from nI_add 140 c, nI_clamp (show 140 + c < 2 ^ 31 by omega), pk_us, pk_un (show (79 : Nat) ≠ 140 + c by omega), pk_un (show (79 : Nat) ≠ 80 + c by omega), g7, nI_1]
    refine ⟨vp_in_nI (by omega) (by omega), vp_in_nI (by omega) (by omega), fun _ => ⟨⟨Or.inl ⟨hb, ?_⟩, HI_keep hh hp hjj (by rw [← d4, ← d5]; exact hR) hk, hP, hC⟩, Nat.le_refl _⟩, fun z => z rfl⟩
    show RR (x.1.1, x.1.2.1, x.1.2.2.1, nI (c + 1), lI (sm c (fun x => rd x * rd x) + z * z), x.1.2.2.2.2.2.1, x.1.2.2.2.2.2.2.1, x.1.2.2.2.2.2.2.2.1, x.1.2.2.2.2.2.2.2.2.1, upd x.1.2.2.2.2.2.2.2.2.2.1 j (nI (cn pl j c + 1)), upd x.1.2.2.2.2.2.2.2.2.2.2 j (iI (su pl rd c j + z))) (upd (upd (upd g (80 + c) (nI j)) (140 + c) (iI z)) 79 (nI (c + 1)))
    have G : ∀ q, q ≠ 79 → q ≠ 80 + c → q ≠ 140 + c → upd (upd (upd g (80 + c) (nI j)) (140 + c) (iI z)) 79 (nI (c + 1)) q = g q := fun q h1 h2 h3 => by rw [pk_un h1, pk_un h3, pk_un h2]
    have cp : ∀ x, x < c → (fun x => if x = c then j else pl x) x = pl x := fun x hx => if_neg (by omega)
    have cr : ∀ x, x < c → (fun x => if x = c then z else rd x) x = rd x := fun x hx => if_neg (by omega)
    refine ⟨K, n, te, ti, wo, mk, c + 1, fun x => if x = c then j else pl x, fun x => if x = c then z else rd x, ⟨⟨hK1, hK6⟩, ⟨hn1, hn5⟩, hte, hdi, hti, htz, htot, hwo, hin, hmk, by omega, fun x => ?_, fun x => ?_⟩, ⟨d1, d2, d3, rfl, ?_, d6, d7, d8, d9, fun s hs => ?_, fun s hs => ?_⟩, ⟨?_, ?_, fun i hi => ?_, fun s hs => ?_, fun i hi => ?_, fun i hi h0 => ?_, pk_us, fun s hs => ?_, fun s hs => ?_⟩⟩
    · dsimp only; split
      · exact hj
      · exact hpl x
    · dsimp only; split
      · exact ⟨hz1, hz2⟩
      · exact hrd x
    · show lI _ = lI _
      congr 1
      have e5 : sm (c + 1) (fun x => (if x = c then z else rd x) * (if x = c then z else rd x)) = sm c (fun x => rd x * rd x) + z * z := by
        rw [sm, sm_congr (g := fun x => rd x * rd x) (fun x hx => by rw [if_neg (show ¬ x = c by omega)])]; simp
      exact e5.symm
    · show upd _ j _ s = nI _
      have e6 : cn (fun x => if x = c then j else pl x) s (c + 1) = cn pl s c + (if j = s then 1 else 0) := by rw [cn, cn_congr cp]; simp
      rw [e6]
      by_cases e : s = j
      · subst e; rw [pk_us, if_pos rfl]
      · rw [pk_un e, if_neg (fun e2 => e e2.symm)]; exact d10 s hs
    · show upd _ j _ s = iI _
      have e5 : su (fun x => if x = c then j else pl x) (fun x => if x = c then z else rd x) (c + 1) s = su pl rd c s + (if j = s then z else 0) := by
        have := su_congr (s := s) cp cr
        unfold su at this ⊢
        rw [sm, this]
        simp
      rw [e5]
      by_cases e : s = j
      · subst e; rw [pk_us, if_pos rfl]
      · rw [pk_un e, if_neg (fun e2 => e e2.symm), d11 s hs]; congr 1; omega
    · rw [G _ (by omega) (by omega) (by omega), g1]
    · rw [G _ (by omega) (by omega) (by omega), g2]
    · rw [G _ (by omega) (by omega) (by omega), g3 i hi]
    · rw [G _ (by omega) (by omega) (by omega), g4 s hs]
    · rw [G _ (by omega) (by omega) (by omega), g5 i hi]
    · rw [G _ (by omega) (by omega) (by omega), g6 i hi h0]
    · dsimp only
      by_cases e : s = c
      · subst e; rw [if_pos rfl, pk_un (by omega), pk_un (by omega), pk_us]
      · rw [if_neg e, G _ (by omega) (by omega) (by omega), g8 s (by omega)]
    · dsimp only
      by_cases e : s = c
      · subst e; rw [if_pos rfl, pk_un (by omega), pk_us]
      · rw [if_neg e, G _ (by omega) (by omega) (by omega), g9 s (by omega)]
  · rw [d4] at z3
    rcases Nat.lt_or_ge c 60 with h | h
    · exact absurd (nI_lt h (by omega)) z3
    · omega
theorem lb_step_26 (x : XS) (y : MS)  (h : LInv x y) : ∃ bud, bud ≤ 49152 ∧ wpL_26 x y  bud (fun x9 y9 => LInv x9 y9 ∧ pot x + bud ≤ pot x9) := by
  refine ⟨0, by omega, ?_⟩
  obtain ⟨hB, hH, hP, hC⟩ := h
  obtain ⟨K, n, te, ti, wo, mk, c, pl, rd, hV, hD, hbg⟩ := BR_open hB
  have hV' := hV
  obtain ⟨⟨hK1, hK6⟩, ⟨hn1, hn5⟩, hte, hdi, hti, htz, htot, hwo, hin, hmk, hc, hpl, hrd⟩ := hV'
  have hD' := hD
  obtain ⟨d1, d2, d3, d4, d5, d6, d7, d8, d9, d10, d11⟩ := hD'
  unfold wpL_26 wpX6_forget
  obtain ⟨h, p, hh, hp, e1, e2, e3, hjj⟩ := hH
  refine wp_keepX hh hp e1 e2 ?_
  unfold wpX1_seeNothing wpM_26 wpX7_forget
  refine hbg _ (fun g b hb hG => ?_)
  have hR : RR x.1 g := ⟨K, n, te, ti, wo, mk, c, pl, rd, hV, hD, hG⟩
  obtain ⟨g1, g2, g3, g4, g5, g6, g7, g8, g9⟩ := hG
  refine wp_keepM hh e3 (fun kept' hk => ?_)
  refine wloop_n (fun i st => ∃ f, st = (nI i, f) ∧ f 79 = 0 ∧ ∀ q, q < 79 → f q = g q) 60 ⟨_, rfl, pk_us, fun q hq => pk_un (by omega)⟩ ?_ ?_
  · rintro i st again hi ⟨f, rfl, hf, hf2⟩ hag
    rw [wbX7_forget_23]
    refine pk_le 60 i (fun z => absurd z (by omega)) (fun _ => ?_)
    rw [show (80 : Int32) + nI i = nI (80 + i) from nI_add 80 i, show (140 : Int32) + nI i = nI (140 + i) from nI_add 140 i, nI_clamp (by omega), nI_clamp (by omega), nI_1]
    refine ⟨vp_in_nI (by omega) (by omega), vp_in_nI (by omega) (by omega), hag _ ⟨_, rfl, ?_, fun q hq => ?_⟩⟩
    · rw [pk_un (by omega), pk_un (by omega), hf]
    · rw [pk_un (by omega), pk_un (by omega), hf2 q hq]
  · rintro st again ⟨f, rfl, hf, hf2⟩
    rw [wbX7_forget_23]
    refine pk_le 60 60 (fun _ => ⟨⟨Or.inl ⟨hb, ?_⟩, HI_keep hh hp hjj hR hk, hP, hC⟩, Nat.le_refl _⟩) (fun z => absurd z (by omega))
    show RR (x.1.1, x.1.2.1, x.1.2.2.1, 0, 0, x.1.2.2.2.2.2.1, x.1.2.2.2.2.2.2.1, x.1.2.2.2.2.2.2.2.1, x.1.2.2.2.2.2.2.2.2.1, (fun _ => 0), (fun _ => 0)) f
    exact ⟨K, n, te, ti, wo, mk, 0, pl, rd, ⟨⟨hK1, hK6⟩, ⟨hn1, hn5⟩, hte, hdi, hti, htz, htot, hwo, hin, hmk, by omega, hpl, hrd⟩, ⟨d1, d2, d3, rfl, rfl, d6, d7, d8, d9, fun s hs => rfl, fun s hs => rfl⟩, ⟨by rw [hf2 _ (by omega), g1], by rw [hf2 _ (by omega), g2], fun i hi => by rw [hf2 _ (by omega), g3 i hi], fun s hs => by rw [hf2 _ (by omega), g4 s hs], fun i hi => by rw [hf2 _ (by omega), g5 i hi], fun i hi h0 => by rw [hf2 _ (by omega), g6 i hi h0], hf, fun s hs => absurd hs (Nat.not_lt_zero _), fun s hs => absurd hs (Nat.not_lt_zero _)⟩⟩
