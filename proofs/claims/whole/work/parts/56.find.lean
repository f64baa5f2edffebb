/-! the reference's bordered tables and the lines that it finds -/
theorem ix6 {a b : Nat} : (6 : Int32) * nI a + nI b = nI (6 * a + b) := by
  show nI 6 * nI a + nI b = _
  rw [pk_mul, nI_add]
theorem wp_border {T : Nat → Nat → Int} {ln : Nat → Nat} {r : Nat} (hr : r ≤ 5) (hl : ∀ a, a < r → ln a < 5) {table work : Nat → Int64} {line : Nat → Int32} {p1 p2 : Nat → Int64} {X Y : Nat → Int} {c : Int} {a3 : Int64}
    (hT : ∀ i j, i < 5 → j < 5 → table (6 * i + j) = lI (T i j)) (hline : ∀ a, a < r → line a = nI (ln a)) (h1 : ∀ i, i < r → p1 (ln i) = lI (X (ln i))) (h2 : ∀ i, i < r → p2 (ln i) = lI (Y (ln i))) (h3 : a3 = lI c) {k : (Nat → Int64) → Prop}
    (h : ∀ work', (∀ i j, i < r + 1 → j < r + 1 → work' (6 * i + j) = lI (bd r (sb T ln) (fun a => X (ln a)) (fun a => Y (ln a)) c i j)) → k work') : wpX7_border table work (nI r) line p1 p2 a3 k := by
  unfold wpX7_border
  refine wloop_n (fun i st => ∃ f, st = (nI i, f) ∧ (∀ a b, a < i → b < r + 1 → f (6 * a + b) = lI (bd r (sb T ln) (fun a => X (ln a)) (fun a => Y (ln a)) c a b)) ∧ ∀ b, b < i → f (6 * r + b) = lI (bd r (sb T ln) (fun a => X (ln a)) (fun a => Y (ln a)) c r b)) r ⟨work, rfl, fun a b h => absurd h (Nat.not_lt_zero _), fun b h => absurd h (Nat.not_lt_zero _)⟩ ?_ ?_
  · rintro i st again hi ⟨f, rfl, hf1, hf2⟩ hag
    rw [wbX7_border_3]
    refine pk_le r i (fun z => absurd z (by omega)) (fun _ => ?_)
    refine wloop_n (fun j st => ∃ f, st = (nI j, f) ∧ (∀ a b, a < i → b < r + 1 → f (6 * a + b) = lI (bd r (sb T ln) (fun a => X (ln a)) (fun a => Y (ln a)) c a b)) ∧ (∀ b, b < i → f (6 * r + b) = lI (bd r (sb T ln) (fun a => X (ln a)) (fun a => Y (ln a)) c r b)) ∧ ∀ b, b < j → f (6 * i + b) = lI (bd r (sb T ln) (fun a => X (ln a)) (fun a => Y (ln a)) c i b)) r ⟨f, rfl, hf1, hf2, fun b h => absurd h (Nat.not_lt_zero _)⟩ ?_ ?_
    · rintro j st again2 hj ⟨f, rfl, hf1, hf2, hf3⟩ hag2
      rw [wbX7_border_15]
      refine pk_le r j (fun z => absurd z (by omega)) (fun _ => ?_)
      have li := hl i hi
      have lj := hl j hj
      rw [nI_clamp (by omega), nI_clamp (by omega), hline i hi, hline j hj, ix6, ix6]
      refine ⟨vp_in_nI (by omega) (by omega), vp_in_nI (by omega) (by omega), vp_in_nI (by omega) (by omega), vp_in_nI (by omega) (by omega), ?_⟩
      rw [nI_clamp (by omega), nI_clamp (by omega), hT _ _ li lj, nI_1]
      refine hag2 _ ⟨_, rfl, fun a b ha hb => ?_, fun b hb => ?_, fun b hb => ?_⟩
      · rw [pk_uLn (by omega)]; exact hf1 a b ha hb
      · rw [pk_uLn (by omega)]; exact hf2 b hb
      · by_cases e : b = j
        · subst e
          rw [pk_uLs]
          unfold bd sb; rw [if_pos hi, if_pos hj]
        · rw [pk_uLn (by omega)]; exact hf3 b (by omega)
    · rintro st again2 ⟨f, rfl, hf1, hf2, hf3⟩
      rw [wbX7_border_15]
      refine pk_le r r (fun _ => ?_) (fun z => absurd z (by omega))
      have li := hl i hi
      rw [nI_clamp (by omega), hline i hi, ix6, ix6]
      refine ⟨vp_in_nI (by omega) (by omega), vp_in_nI (by omega) (by omega), vp_in_nI (by omega) (by omega), vp_in_nI (by omega) (by omega), vp_in_nI (by omega) (by omega), vp_in_nI (by omega) (by omega), ?_⟩
      rw [nI_clamp (by omega), nI_clamp (by omega), nI_clamp (by omega), h1 i hi, h2 i hi, nI_1]
      refine hag _ ⟨_, rfl, fun a b ha hb => ?_, fun b hb => ?_⟩
      · by_cases e : a = i
        · subst e
          rw [pk_uLn (by omega)]
          by_cases e2 : b = r
          · subst e2
            rw [pk_uLs]
            unfold bd; rw [if_pos hi, if_neg (Nat.lt_irrefl b)]
          · rw [pk_uLn (by omega)]; exact hf3 b (by omega)
        · rw [pk_uLn (by omega), pk_uLn (by omega)]; exact hf1 a b (by omega) hb
      · by_cases e : b = i
        · subst e
          rw [pk_uLs]
          unfold bd; rw [if_neg (Nat.lt_irrefl r), if_pos hi]
        · rw [pk_uLn (by omega), pk_uLn (by omega)]; exact hf2 b (by omega)
  · rintro st again ⟨f, rfl, hf1, hf2⟩
    rw [wbX7_border_3]
    refine pk_le r r (fun _ => ?_) (fun z => absurd z (by omega))
    rw [ix6]
    refine ⟨vp_in_nI (by omega) (by omega), ?_⟩
    rw [nI_clamp (by omega), h3]
    refine h _ (fun i j hi hj => ?_)
    by_cases e : i = r
    · subst e
      by_cases e2 : j = i
      · subst e2
        rw [pk_uLs]
        unfold bd; rw [if_neg (Nat.lt_irrefl j), if_neg (Nat.lt_irrefl j)]
      · rw [pk_uLn (by omega)]; exact hf2 j (by omega)
    · rw [pk_uLn (by omega)]; exact hf1 i j (by omega) hj
theorem border_same (table work : Nat → Int64) (r : Int32) (line : Nat → Int32) (p1 : Nat → Int64) (a3 : Int64) (k : (Nat → Int64) → Prop) : wpX7_border_p2p1 table work r line p1 a3 k = wpX7_border table work r line p1 p1 a3 k := rfl
/-- a bordered table and its determinant -/
theorem wp_bworth {T : Nat → Nat → Int} {ln : Nat → Nat} {r : Nat} (hr : r ≤ 5) (hl : ∀ a, a < r → ln a < 5) {table work part : Nat → Int64} {line : Nat → Int32} {p1 p2 : Nat → Int64} {X Y : Nat → Int} {c : Int} {a3 : Int64}
    (hT : ∀ i j, i < 5 → j < 5 → table (6 * i + j) = lI (T i j)) (hline : ∀ a, a < r → line a = nI (ln a)) (h1 : ∀ i, i < r → p1 (ln i) = lI (X (ln i))) (h2 : ∀ i, i < r → p2 (ln i) = lI (Y (ln i))) (h3 : a3 = lI c) {k : (Nat → Int64) → Int64 → (Nat → Int64) → Prop}
    (h : ∀ work' part', k work' (lI (c * DD T ln r - sm r (fun p => Y (ln p) * SS T ln r X p))) part') : wpX7_border table work (nI r) line p1 p2 a3 (fun w => wpX7_worthOf w part (nI r + 1) (fun d p => k w d p)) := by
  refine wp_border hr hl hT hline h1 h2 h3 (fun w hw => ?_)
  rw [nI_1]
  refine wp_worth (by omega) hw (fun part' => ?_)
  have e := det_bd r (sb T ln) (fun a => X (ln a)) (fun a => Y (ln a)) c
  rw [yAx T ln r X (fun a => Y (ln a))] at e
  rw [e]
  exact h w part'
/-- the lines, one after the other -/
def gln (T : Nat → Nat → Int) : Nat → Nat × (Nat → Nat)
  | 0 => (0, fun _ => 0)
  | k + 1 => if UU T (gln T k).2 (gln T k).1 (fun i => T i k) k = 0 then gln T k else ((gln T k).1 + 1, fun a => if a = (gln T k).1 then k else (gln T k).2 a)
theorem DD_cong {T : Nat → Nat → Int} {l1 l2 : Nat → Nat} {r : Nat} (h : ∀ a, a < r → l1 a = l2 a) : DD T l1 r = DD T l2 r := det_congr (fun i j hi hj => by unfold sb; rw [h i hi, h j hj])
theorem adj_cong {M1 M2 : Nat → Nat → Int} {r : Nat} (h : ∀ i j, i < r → j < r → M1 i j = M2 i j) {p i : Nat} (hp : p < r) (hi : i < r) : adj r M1 p i = adj r M2 p i := by
  unfold adj
  congr 1
  exact det_congr (fun a b ha hb => h _ _ (by unfold up; split <;> omega) (by unfold up; split <;> omega))
theorem SS_cong {T : Nat → Nat → Int} {l1 l2 : Nat → Nat} {r : Nat} (h : ∀ a, a < r → l1 a = l2 a) (X : Nat → Int) {a : Nat} (ha : a < r) : SS T l1 r X a = SS T l2 r X a :=
  sm_congr (fun b hb => by rw [h b hb, adj_cong (M2 := sb T l2) (fun i j hi hj => by unfold sb; rw [h i hi, h j hj]) ha hb])
theorem UU_cong {T : Nat → Nat → Int} {l1 l2 : Nat → Nat} {r : Nat} (h : ∀ a, a < r → l1 a = l2 a) (X : Nat → Int) (i : Nat) : UU T l1 r X i = UU T l2 r X i := by
  unfold UU
  rw [DD_cong h, sm_congr (fun a ha => by rw [h a ha, SS_cong h X ha])]
/-- what holds of the lines -/
theorem gln_ok {n : Nat} {T : Nat → Nat → Int} (hT : psd n T) : ∀ k, k ≤ n → (gln T k).1 ≤ k ∧ (∀ a, a < (gln T k).1 → (gln T k).2 a < k) ∧ (∀ a b, a < b → b < (gln T k).1 → (gln T k).2 a < (gln T k).2 b) ∧ 0 < DD T (gln T k).2 (gln T k).1
  | 0, _ => ⟨Nat.le_refl _, fun a h => absurd h (Nat.not_lt_zero _), fun a b _ h => absurd h (Nat.not_lt_zero _), by show (0 : Int) < 1; decide⟩
  | k + 1, hk => by
    obtain ⟨h1, h2, h3, h4⟩ := gln_ok hT k (by omega)
    rw [gln]
    by_cases e : UU T (gln T k).2 (gln T k).1 (fun i => T i k) k = 0
    · rw [if_pos e]
      exact ⟨by omega, fun a ha => by have := h2 a ha; omega, h3, h4⟩
    · rw [if_neg e]
      refine ⟨by dsimp only; omega, fun a ha => ?_, fun a b hab hb => ?_, ?_⟩
      · dsimp only at ha ⊢
        by_cases e2 : a = (gln T k).1
        · rw [if_pos e2]; omega
        · rw [if_neg e2]; have := h2 a (by omega); omega
      · dsimp only at hb ⊢
        rw [if_neg (show ¬ a = (gln T k).1 by omega)]
        by_cases e2 : b = (gln T k).1
        · rw [if_pos e2]; exact h2 a (by omega)
        · rw [if_neg e2]; exact h3 a b hab (by omega)
      · dsimp only
        have hc : ∀ a, a < (gln T k).1 → (fun a => if a = (gln T k).1 then k else (gln T k).2 a) a = (gln T k).2 a := fun a ha => if_neg (by omega)
        rw [DD_succ, UU_cong hc]
        simp only [if_true]
        have := piv_nonneg hT (fun a ha => by have := h2 a ha; omega) (show k < n by omega) h4
        omega
theorem gln_le (T : Nat → Nat → Int) : ∀ k, (gln T k).1 ≤ k ∧ ∀ a, a < (gln T k).1 → (gln T k).2 a < k
  | 0 => ⟨Nat.le_refl _, fun a h => absurd h (Nat.not_lt_zero _)⟩
  | k + 1 => by
    obtain ⟨h1, h2⟩ := gln_le T k
    rw [gln]
    by_cases e : UU T (gln T k).2 (gln T k).1 (fun i => T i k) k = 0
    · rw [if_pos e]
      exact ⟨by omega, fun a ha => by have := h2 a ha; omega⟩
    · rw [if_neg e]
      refine ⟨by dsimp only; omega, fun a ha => ?_⟩
      dsimp only at ha ⊢
      by_cases e2 : a = (gln T k).1
      · rw [if_pos e2]; omega
      · rw [if_neg e2]; have := h2 a (by omega); omega
theorem UU_abs {T : Nat → Nat → Int} {ln : Nat → Nat} {r k : Nat} (hr : r ≤ 4) (hB : ∀ i j, (T i j).natAbs ≤ 60) : (UU T ln r (fun i => T i k) k).natAbs ≤ 100000000000 := by
  rw [← UU_det]
  refine Nat.le_trans (det_abs (r + 1) _ 60 (fun i j _ _ => ?_)) ?_
  · unfold bd sb
    split <;> split <;> exact hB _ _
  · match r, hr with
    | 0, _ => decide
    | 1, _ => decide
    | 2, _ => decide
    | 3, _ => decide
    | 4, _ => decide
    | r + 5, h => exact absurd h (by omega)
theorem lI_zero {z : Int} (hz : z.natAbs < 9223372036854775808) : (lI z = 0) ↔ z = 0 := lI_inj (b := 0) hz (by decide)
theorem wp_find {T : Nat → Nat → Int} {n : Nat} (hn : n ≤ 5) (hB : ∀ i j, (T i j).natAbs ≤ 60) {g : Nat → Int32} (hg : g 1 = nI n) {table work part : Nat → Int64} {lines : Int32} {line : Nat → Int32} {base : Int64} {side under : Nat → Int64}
    (hT : ∀ i j, i < 5 → j < 5 → table (6 * i + j) = lI (T i j)) {k : (Nat → Int64) → (Nat → Int64) → Int32 → (Nat → Int32) → Int64 → (Nat → Int64) → (Nat → Int64) → Prop}
    (h : ∀ work' part' line' side' under', (∀ a, a < (gln T n).1 → line' a = nI ((gln T n).2 a)) → k work' part' (nI (gln T n).1) line' (lI (DD T (gln T n).2 (gln T n).1)) side' under') : wpX7_findLines g table work part lines line base side under k := by
  unfold wpX7_findLines
  refine wloop_n (fun i st => ∃ w p ln sd ud, st = (nI i, w, p, nI (gln T i).1, ln, lI (DD T (gln T i).2 (gln T i).1), sd, ud) ∧ ∀ a, a < (gln T i).1 → ln a = nI ((gln T i).2 a)) n ⟨work, part, line, side, under, rfl, fun a ha => absurd ha (Nat.not_lt_zero _)⟩ ?_ ?_
  · rintro i st again hi ⟨w, p, ln, sd, ud, rfl, hln⟩ hag
    rw [wbX7_findLines_12, hg]
    refine pk_le n i (fun z => absurd z (by omega)) (fun _ => ?_)
    refine wloop_n (fun j st => ∃ sd ud, st = (nI j, sd, ud) ∧ (∀ b, b < j → sd b = lI (T b i)) ∧ (∀ b, b < j → ud b = lI (T i b))) 5 ⟨sd, ud, rfl, fun b hb => absurd hb (Nat.not_lt_zero _), fun b hb => absurd hb (Nat.not_lt_zero _)⟩ ?_ ?_
    · rintro j st again2 hj ⟨sd, ud, rfl, hs, hu⟩ hag2
      rw [wbX7_findLines_24]
      refine pk_le 5 j (fun z => absurd z (by omega)) (fun _ => ?_)
      rw [ix6, ix6]
      refine ⟨vp_in_nI (by omega) (by omega), vp_in_nI (by omega) (by omega), vp_in_nI (by omega) (by omega), vp_in_nI (by omega) (by omega), ?_⟩
      rw [nI_clamp (by omega), nI_clamp (by omega), nI_clamp (by omega), hT j i hj (by omega), hT i j (by omega) hj, nI_1]
      refine hag2 _ ⟨_, _, rfl, fun b hb => ?_, fun b hb => ?_⟩
      · by_cases e : b = j
        · subst e; rw [pk_uLs]
        · rw [pk_uLn e]; exact hs b (by omega)
      · by_cases e : b = j
        · subst e; rw [pk_uLs]
        · rw [pk_uLn e]; exact hu b (by omega)
    · rintro st again2 ⟨sd, ud, rfl, hs, hu⟩
      rw [wbX7_findLines_24]
      refine pk_le 5 5 (fun _ => ?_) (fun z => absurd z (by omega))
      rw [ix6]
      refine ⟨vp_in_nI (by omega) (by omega), ?_⟩
      rw [nI_clamp (by omega), hT i i (by omega) (by omega)]
      obtain ⟨g1, g2⟩ := gln_le T i
      refine wp_bworth (T := T) (ln := (gln T i).2) (r := (gln T i).1) (X := fun b => T b i) (Y := fun b => T i b) (c := T i i) (by omega) (fun a ha => by have := g2 a ha; omega) hT hln (fun a ha => hs _ (by have := g2 a ha; omega)) (fun a ha => hu _ (by have := g2 a ha; omega)) rfl (k := fun w d p => ((d = (0 : Int64)) → (again (nI i + (1 : Int32), w, p, nI (gln T i).1, ln, lI (DD T (gln T i).2 (gln T i).1), sd, ud))) ∧ (¬ (d = (0 : Int64)) → ((vp_in (nI (gln T i).1) 5) ∧ (again (nI i + (1 : Int32), w, p, nI (gln T i).1 + (1 : Int32), upd ln ((nI (gln T i).1).toNatClampNeg) (nI i), d, sd, ud))))) (fun w' p' => ?_)
      have eU : T i i * DD T (gln T i).2 (gln T i).1 - sm (gln T i).1 (fun p => T i ((gln T i).2 p) * SS T (gln T i).2 (gln T i).1 (fun b => T b i) p) = UU T (gln T i).2 (gln T i).1 (fun b => T b i) i := rfl
      rw [eU, lI_zero (Nat.lt_of_le_of_lt (UU_abs (by omega) hB) (by decide)), nI_1]
      refine ⟨fun e => hag _ ?_, fun e => ⟨vp_in_nI (by omega) (by omega), ?_⟩⟩
      · rw [gln, if_pos e]
        exact ⟨_, _, _, _, _, rfl, hln⟩
      · rw [nI_clamp (by omega), nI_1]
        refine hag _ ?_
        rw [gln, if_neg e]
        have hc : ∀ a, a < (gln T i).1 → (fun a => if a = (gln T i).1 then i else (gln T i).2 a) a = (gln T i).2 a := fun a ha => if_neg (by omega)
        have eD : DD T (fun a => if a = (gln T i).1 then i else (gln T i).2 a) ((gln T i).1 + 1) = UU T (gln T i).2 (gln T i).1 (fun b => T b i) i := by
          rw [DD_succ, UU_cong hc]
          simp only [if_true]
        refine ⟨_, _, _, _, _, by rw [← eD], fun a ha => ?_⟩
        dsimp only at ha ⊢
        by_cases e2 : a = (gln T i).1
        · subst e2; rw [pk_us, if_pos rfl]
        · rw [pk_un e2, if_neg e2]; exact hln a (by omega)
  · rintro st again ⟨w, p, ln, sd, ud, rfl, hln⟩
    rw [wbX7_findLines_12, hg]
    refine pk_le n n (fun _ => ?_) (fun z => absurd z (by omega))
    exact h _ _ _ _ _ hln
