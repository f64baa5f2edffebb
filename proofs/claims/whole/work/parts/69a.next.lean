/-! the step next -/
theorem det_nonneg {n : Nat} {T : Nat → Nat → Int} (hT : psd n T) : 0 ≤ det n T := by
  obtain ⟨g1, g2, g3, g4⟩ := gln_ok hT n (Nat.le_refl _)
  by_cases e : (gln T n).1 = n
  · have h := gln_all hT (Nat.le_refl _) e
    have e2 : DD T (gln T n).2 (gln T n).1 = det n T := by
      rw [e]
      unfold DD
      exact det_congr (fun i j hi hj => by unfold sb; rw [h i hi, h j hj])
    omega
  · obtain ⟨k, hk, hz⟩ : ∃ k, k < n ∧ UU T (gln T k).2 (gln T k).1 (fun i => T i k) k = 0 := by
      refine Classical.byContradiction (fun hno => ?_)
      have : ∀ m, m ≤ n → (gln T m).1 = m := by
        intro m
        induction m with
        | zero => intro _; rfl
        | succ m ih =>
          intro hm
          rw [gln_succ, if_neg (fun e => hno ⟨m, by omega, e⟩), ih (by omega)]
      exact e (this n (Nat.le_refl _))
    obtain ⟨v, v1, v2, v3⟩ := (pick_ker hT hk).1 hz
    rw [det_ker v3 hk v1]; decide
theorem det_b {n : Nat} (hn : n ≤ 5) {T : Nat → Nat → Int} (hB : ∀ i j, (T i j).natAbs ≤ 60) : (det n T).natAbs ≤ 100000000000 := by
  have := DDb (T := T) (ln := id) hn hB
  exact this
/-- the reference's cells of K, the MODEL and the PLAN -/
def PG (g : Nat → Int32) (K n : Nat) (te u : Nat → Nat) : Prop := g 0 = nI K ∧ g 1 = nI n ∧ (∀ i, i < n → g (2 + i) = nI (te i)) ∧ ∀ s, s < 64 → g (7 + s) = nI (u s)
theorem wp_wnow {K n : Nat} (hK : K < 7) (hn : n ≤ 5) {te u : Nat → Nat} (hte : ∀ i, i < n → te i < 64) (hu : ∀ s, s < 64 → u s ≤ 60) {g : Nat → Int32} (hG : PG g K n te u) {table work part : Nat → Int64} {k : Int64 → (Nat → Int64) → (Nat → Int64) → (Nat → Int64) → Prop} (h : ∀ t w p, k (lI (WW K n te u)) t w p) : wpX7_worthNow g table work part k := by
  unfold wpX7_worthNow
  refine wp_tabP hK hn hte hu hG.1 hG.2.1 hG.2.2.1 hG.2.2.2 (fun f hf => ?_)
  exact wp_wholeWorth hn hG.2.1 hf (fun w p => h f w p)
def tup (ti : Nat → Nat) (s : Nat) : Nat → Nat := fun t => if t = s then ti t + 1 else ti t
theorem tup_s (ti : Nat → Nat) (s : Nat) : tup ti s s = ti s + 1 := if_pos rfl
theorem tup_n {ti : Nat → Nat} {s t : Nat} (h : t ≠ s) : tup ti s t = ti t := if_neg h
theorem tdc_s (ti : Nat → Nat) (s : Nat) : tdc ti s s = ti s - 1 := if_pos rfl
theorem tdc_n {ti : Nat → Nat} {s t : Nat} (h : t ≠ s) : tdc ti s t = ti t := if_neg h
theorem tot_chg {f g : Nat → Nat} {s n : Nat} (h : ∀ t, t ≠ s → g t = f t) (hs : s < n) : tot g n = tot f n - f s + g s := sm_chg (f := fun t => (f t : Int)) (g := fun t => (g t : Int)) (fun t ht => by rw [h t ht]) hs
theorem tot_up {ti : Nat → Nat} {s n : Nat} (hs : s < n) : tot (tup ti s) n = tot ti n + 1 := by
  rw [tot_chg (f := ti) (s := s) (fun t ht => tup_n ht) hs, tup_s]; omega
theorem tot_dc {ti : Nat → Nat} {s n : Nat} (hs : s < n) (h0 : 0 < ti s) : tot (tdc ti s) n = tot ti n - 1 := by
  rw [tot_chg (f := ti) (s := s) (fun t ht => tdc_n ht) hs, tdc_s]; omega
theorem tbp_b {n : Nat} {te u : Nat → Nat} {S : Nat} (h : tot u S ≤ 60) (i j : Nat) : (tbp n te id u S i j).natAbs ≤ 60 := tbp_abs h i j
theorem tbp_up {n : Nat} {te ti : Nat → Nat} {s x : Nat} (hs : s < x) {i j : Nat} (hi : i < n) (hj : j < n) : tbp n te id (tup ti s) x i j = tbp n te id ti x i j + ch (te i) s * ch (te j) s := by
  rw [tbp_chg (ti := ti) (s := s) hs (fun t ht => tup_n ht) hi hj, tup_s]
  generalize ch (te i) s * ch (te j) s = a
  have : ((ti s + 1 : Nat) : Int) - ti s = 1 := by omega
  rw [this]; omega
theorem tbp_dc {n : Nat} {te ti : Nat → Nat} {s x : Nat} (hs : s < x) (h0 : 0 < ti s) {i j : Nat} (hi : i < n) (hj : j < n) : tbp n te id (tdc ti s) x i j = tbp n te id ti x i j - ch (te i) s * ch (te j) s := by
  rw [tbp_chg (ti := ti) (s := s) hs (fun t ht => tdc_n ht) hi hj, tdc_s]
  generalize ch (te i) s * ch (te j) s = a
  have : ((ti s - 1 : Nat) : Int) - ti s = -1 := by omega
  rw [this]; omega
theorem wp_moveU {g : Nat → Int32} {s v : Nat} (hs : s < 64) (hv : v < 60) (hg : g (7 + s) = nI v) {k : (Nat → Int32) → Prop} (h : k (upd g (7 + s) (nI (v + 1)))) : wpX7_moves g (nI s) 1 k := by
  unfold wpX7_moves
  rw [show (7 : Int32) + nI s = nI (7 + s) from nI_add 7 s, nI_clamp (by omega), hg, nI_1]
  exact ⟨vp_in_nI (by omega) (by omega), vp_in_nI (by omega) (by omega), h⟩
theorem wp_moveD {g : Nat → Int32} {s v : Nat} (hs : s < 64) (hv : v < 60) (hg : g (7 + s) = nI (v + 1)) {k : (Nat → Int32) → Prop} (h : k (upd g (7 + s) (nI v))) : wpX7_moves g (nI s) (-1) k := by
  unfold wpX7_moves
  rw [show (7 : Int32) + nI s = nI (7 + s) from nI_add 7 s, nI_clamp (by omega), hg, pk_m1]
  exact ⟨vp_in_nI (by omega) (by omega), vp_in_nI (by omega) (by omega), h⟩
theorem PG_chg {g : Nat → Int32} {K n : Nat} {te u u' : Nat → Nat} {s : Nat} (hn : n ≤ 5) (hs : s < 64) (hG : PG g K n te u) (h : ∀ t, t ≠ s → u' t = u t) {v : Nat} (hv : u' s = v) : PG (upd g (7 + s) (nI v)) K n te u' := by
  refine ⟨by rw [pk_un (by omega)]; exact hG.1, by rw [pk_un (by omega)]; exact hG.2.1, fun i hi => by rw [pk_un (by omega)]; exact hG.2.2.1 i hi, fun t ht => ?_⟩
  by_cases e : t = s
  · subst e; rw [pk_us, hv]
  · rw [pk_un (by omega), h t e]; exact hG.2.2.2 t ht
/-- the next trial, SETTING by SETTING -/
def nxf (ti : Nat → Nat) (W : Nat → Int) : Nat → Int64 × Int32
  | 0 => (-1, -1)
  | s + 1 => if ti s < 9 ∧ ¬ lI (W s) ≤ (nxf ti W s).1 then (lI (W s), nI s) else nxf ti W s
theorem nxf_ok (ti : Nat → Nat) (W : Nat → Int) : ∀ s, s ≤ 64 → (nxf ti W s).2 = -1 ∧ (nxf ti W s).1 = -1 ∨ ∃ u, u < s ∧ (nxf ti W s).2 = nI u
  | 0, _ => Or.inl ⟨rfl, rfl⟩
  | s + 1, hs => by
    rw [nxf]
    split
    · exact Or.inr ⟨s, by omega, rfl⟩
    · rcases nxf_ok ti W s (by omega) with h | ⟨u, h1, h2⟩
      · exact Or.inl h
      · exact Or.inr ⟨u, by omega, h2⟩
theorem nI_m1 {u : Nat} (h : u < 2 ^ 31) : nI u ≠ -1 := fun e => nI_pos h (by rw [e]; decide)
theorem lb_step_16 (x : XS) (y : MS)  (h : LInv x y) : ∃ bud, bud ≤ 49152 ∧ wpL_16 x y  bud (fun x9 y9 => LInv x9 y9 ∧ pot x + bud ≤ pot x9) := by
  refine ⟨0, by omega, ?_⟩
  obtain ⟨hB, hH, hP, hC⟩ := h
  obtain ⟨K, n, te, ti, wo, mk, c, pl, rd, hV, hD, hbg⟩ := BR_open hB
  obtain ⟨hps, hbd⟩ := plan_psd hV
  have hV' := hV
  obtain ⟨⟨hK1, hK6⟩, ⟨hn1, hn5⟩, hte, hdi, hti, htz, htot, hwo, hin, hmk, hc, hpl, hrd⟩ := hV'
  have hD' := hD
  obtain ⟨d1, d2, d3, d4, d5, d6, d7, d8, d9, d10, d11⟩ := hD'
  have h64 := p64 hK6
  have hte6 : ∀ i, i < n → te i < 64 := fun i hi => by have := hte i hi; omega
  have htS := tot_z htz (N := 64) h64
  have htn := tot_nonneg ti 64
  unfold wpL_16 wpX6_next
  have hbu : ∀ s, s < 2 ^ K → ∀ i j, (tbp n te id (tup ti s) (2 ^ K) i j).natAbs ≤ 60 := fun s hs i j => tbp_b (by rw [tot_up hs]; omega) i j
  have hW0 : ∀ s, 0 ≤ WW K n te (tup ti s) := fun s => det_nonneg (psd_tbp _ _ _ _ _)
  have hWb : ∀ s, s < 2 ^ K → (WW K n te (tup ti s)).natAbs ≤ 100000000000 := fun s hs => det_b hn5 (hbu s hs)
  rw [d3, show (40 : Int32) = iI 40 from rfl, iI_lt (by omega) (by decide)]
  refine ⟨fun z => ?_, fun z => ?_⟩
  · refine wp_fill (by omega) hn5 hte6 (fun s _ => by have := hti s; omega) d1 d2 d6 d7 (fun f hf => wp_settX (by omega) d1 ?_)
    refine wloop_n (fun s st => ∃ tc ts, st = ((nxf ti (fun s => WW K n te (tup ti s)) s).1, (nxf ti (fun s => WW K n te (tup ti s)) s).2, nI s, tc, ts)) (2 ^ K) ⟨_, _, rfl⟩ ?_ ?_
    · rintro s st again hs ⟨tc, ts, rfl⟩ hag
      have ht9 := hti s
      rw [wbX6_next_50]
      refine pk_le (2 ^ K) s (fun z => absurd z (by omega)) (fun _ => ⟨vp_in_nI (by omega) (by omega), ?_⟩)
      rw [nI_clamp (by omega), d7 s (by omega), nI_1]
      refine pk_lt (ti s) 9 (fun z2 => ?_) (fun z2 => hag _ ⟨tc, ts, by rw [nxf, if_neg (fun e => by omega)]⟩)
      unfold wpX2_copyFrom
      refine wp_signs hn5 hte6 (by omega) d2 d6 ?_
      refine wp_shift (d := 1) hn5 (Nat.lt_of_lt_of_le (sgs_lt te s n) (p5 n (by omega))) (by decide) rfl hf (fun f2 hf2 => ?_)
      refine wp_det (T := tbp n te id (tup ti s) (2 ^ K)) hn1 hn5 (psd_tbp _ _ _ _ _) (hbu s hs) rfl (GC_congr hf2 (fun a b ha hb => ?_)) (fun f3 => ⟨fun z3 => hag _ ⟨f3, nI n, ?_⟩, fun z3 => hag _ ⟨f3, nI n, ?_⟩⟩)
      · rw [tbp_up hs ha (by omega), sgs_ch ha, sgs_ch (show b < n by omega), Int.one_mul]
      · rw [nxf, if_neg (fun e => e.2 z3)]
      · rw [nxf, if_pos ⟨z2, z3⟩]; rfl
    · rintro st again ⟨tc, ts, rfl⟩
      rw [wbX6_next_50]
      refine pk_le (2 ^ K) (2 ^ K) (fun _ => ?_) (fun z => absurd z (by omega))
      unfold wpM_16 wpX7_next
      refine hbg _ (fun g b hb hG => wp_trials hG.2.2.2.1 ?_)
      rw [show (40 : Int32) = iI 40 from rfl, iI_inj (by omega) (by decide)]
      refine ⟨fun z2 => absurd z2 (by omega), fun _ => ?_⟩
      refine wloop_n (fun s st => ∃ mo g' tb w p, st = ((nxf ti (fun s => WW K n te (tup ti s)) s).2, mo, nI s, g', tb, w, p) ∧ RG g' K n te ti wo mk c pl rd ∧ ((nxf ti (fun s => WW K n te (tup ti s)) s).2 ≠ -1 → mo = (nxf ti (fun s => WW K n te (tup ti s)) s).1)) (2 ^ K) ⟨_, _, _, _, _, rfl, hG, fun z => absurd rfl z⟩ ?_ ?_
      · rintro s st again hs ⟨mo, g', tb, w, p, rfl, hG', hmo⟩ hag
        have ht9 := hti s
        have hw0 := hW0 s
        have hwb := hWb s hs
        rw [wbX7_next_27]
        refine wp_settM (by omega) hG'.1 (pk_le (2 ^ K) s (fun z => absurd z (by omega)) (fun _ => ?_))
        rw [show (7 : Int32) + nI s = nI (7 + s) from nI_add 7 s, nI_clamp (by omega), hG'.2.2.2.1 s (by omega), nI_1]
        refine ⟨vp_in_nI (by omega) (by omega), pk_eq (ti s) 9 (fun z2 => ?_) (fun z2 => ?_)⟩
        · have e : nxf ti (fun s => WW K n te (tup ti s)) (s + 1) = nxf ti (fun s => WW K n te (tup ti s)) s := by rw [nxf, if_neg (fun e => by omega)]
          exact hag _ ⟨mo, g', tb, w, p, by rw [e], hG', by rw [e]; exact hmo⟩
        · refine wp_moveU (by omega) (by omega) (hG'.2.2.2.1 s (by omega)) ?_
          refine wp_wnow (u := tup ti s) (by omega) hn5 hte6 (fun t _ => by have := hti t; unfold tup; split <;> omega) (PG_chg hn5 (by omega) (u := ti) ⟨hG'.1, hG'.2.1, hG'.2.2.1, hG'.2.2.2.1⟩ (fun t ht => tup_n ht) (tup_s ti s)) (fun tb2 w2 p2 => ?_)
          refine wp_moveD (by omega) (by omega) pk_us ?_
          have hG2 : RG (upd (upd g' (7 + s) (nI (ti s + 1))) (7 + s) (nI (ti s))) K n te ti wo mk c pl rd := RG_congr hn5 hc hG' (fun q _ => by
            by_cases e : q = 7 + s
            · subst e; rw [pk_us]; exact (hG'.2.2.2.1 s (by omega)).symm
            · rw [pk_un e, pk_un e])
          have tk : ¬ lI (WW K n te (tup ti s)) ≤ (nxf ti (fun s => WW K n te (tup ti s)) s).1 → again (nI s, lI (WW K n te (tup ti s)), nI (s + 1), upd (upd g' (7 + s) (nI (ti s + 1))) (7 + s) (nI (ti s)), tb2, w2, p2) := fun hn => by
            have e : nxf ti (fun s => WW K n te (tup ti s)) (s + 1) = (lI (WW K n te (tup ti s)), nI s) := by rw [nxf, if_pos ⟨by omega, hn⟩]
            exact hag _ ⟨_, _, _, _, _, by rw [e], hG2, fun _ => by rw [e]⟩
          refine ⟨fun z3 => tk ?_, fun z3 => ⟨fun z4 => tk ?_, fun z4 => ?_⟩⟩
          · rcases nxf_ok ti (fun s => WW K n te (tup ti s)) s (by omega) with ⟨h1, h2⟩ | ⟨u, h1, h2⟩
            · rw [h2, show (-1 : Int64) = lI (-1) from rfl, lI_le (by omega) (by decide)]; omega
            · rw [h2] at z3; exact absurd z3 (nI_m1 (by omega))
          · rw [← hmo z3]; exact Int64.not_le.2 z4
          · have e : nxf ti (fun s => WW K n te (tup ti s)) (s + 1) = nxf ti (fun s => WW K n te (tup ti s)) s := by rw [nxf, if_neg (fun e => e.2 (by rw [← hmo z3]; exact Int64.not_lt.1 z4))]
            exact hag _ ⟨mo, _, _, _, _, by rw [e], hG2, by rw [e]; exact hmo⟩
      · rintro st again ⟨mo, g', tb, w, p, rfl, hG', hmo⟩
        rw [wbX7_next_27]
        exact wp_settM (by omega) hG'.1 (pk_le (2 ^ K) (2 ^ K) (fun _ => ⟨fun _ => ⟨⟨Or.inl ⟨hb, K, n, te, ti, wo, mk, c, pl, rd, hV, ⟨d1, d2, rfl, d4, d5, d6, d7, d8, d9, d10, d11⟩, hG'⟩, hH, hP, hC⟩, Nat.le_refl _⟩, fun z => z rfl⟩) (fun z => absurd z (by omega)))
  · unfold wpM_16 wpX7_next
    refine hbg _ (fun g b hb hG => wp_trials hG.2.2.2.1 ?_)
    rw [show (40 : Int32) = iI 40 from rfl, iI_inj (by omega) (by decide)]
    exact ⟨fun _ => ⟨fun _ => ⟨⟨Or.inl ⟨hb, K, n, te, ti, wo, mk, c, pl, rd, hV, ⟨d1, d2, rfl, d4, d5, d6, d7, d8, d9, d10, d11⟩, hG⟩, hH, hP, hC⟩, Nat.le_refl _⟩, fun z => z rfl⟩, fun z2 => absurd (show tot ti 64 = 40 by omega) z2⟩
