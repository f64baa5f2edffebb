/-! LEVEL B: loops of the wp words, sums, determinants -/
theorem wloop_m {S : Type} {body : S → (S → Prop) → Prop} (I : S → Prop) (μ : S → Nat) {s0 : S} (h0 : I s0) (hs : ∀ s (again : S → Prop), I s → (∀ s', I s' → μ s' < μ s → again s') → body s again) : wloop body s0 := by
  have key : ∀ n s, I s → μ s < n → wl body n s := by
    intro n
    induction n with
    | zero => intro s _ h; exact absurd h (Nat.not_lt_zero _)
    | succ n ih =>
      intro s hI hm
      exact hs s _ hI (fun s' hI' hm' => ih s' hI' (by omega))
  exact ⟨μ s0 + 1, key _ s0 h0 (Nat.lt_succ_self _)⟩
theorem wloop_n {S : Type} {body : S → (S → Prop) → Prop} (I : Nat → S → Prop) (n : Nat) {s0 : S} (h0 : I 0 s0) (hs : ∀ i s (again : S → Prop), i < n → I i s → (∀ s', I (i + 1) s' → again s') → body s again) (hx : ∀ s again, I n s → body s again) : wloop body s0 := by
  have key : ∀ d i s, i + d = n → I i s → wl body (d + 1) s := by
    intro d
    induction d with
    | zero => intro i s hi hI; have e : i = n := by omega
              subst e; exact hx s _ hI
    | succ d ih => intro i s hi hI; exact hs i s _ (by omega) hI (fun s' hI' => ih (i + 1) s' (by omega) hI')
  exact ⟨n + 1, key n 0 s0 (by omega) h0⟩
/-- sums of whole numbers -/
def sm : Nat → (Nat → Int) → Int
  | 0, _ => 0
  | n + 1, f => sm n f + f n
theorem sm_congr {n : Nat} {f g : Nat → Int} (h : ∀ i, i < n → f i = g i) : sm n f = sm n g := by
  induction n with
  | zero => rfl
  | succ n ih => rw [sm, sm, ih (fun i hi => h i (by omega)), h n (by omega)]
theorem sm_zero {n : Nat} {f : Nat → Int} (h : ∀ i, i < n → f i = 0) : sm n f = 0 := by
  induction n with
  | zero => rfl
  | succ n ih => rw [sm, ih (fun i hi => h i (by omega)), h n (by omega)]; rfl
theorem sm_add (n : Nat) (f g : Nat → Int) : sm n (fun i => f i + g i) = sm n f + sm n g := by
  induction n with
  | zero => rfl
  | succ n ih => rw [sm, sm, sm, ih]; omega
theorem sm_mul (n : Nat) (c : Int) (f : Nat → Int) : sm n (fun i => c * f i) = c * sm n f := by
  induction n with
  | zero => simp [sm]
  | succ n ih => rw [sm, sm, ih, Int.mul_add]
theorem sm_mulr (n : Nat) (c : Int) (f : Nat → Int) : sm n (fun i => f i * c) = sm n f * c := by
  induction n with
  | zero => simp [sm]
  | succ n ih => rw [sm, sm, ih, Int.add_mul]
theorem sm_neg (n : Nat) (f : Nat → Int) : sm n (fun i => - f i) = - sm n f := by
  induction n with
  | zero => rfl
  | succ n ih => rw [sm, sm, ih]; omega
theorem sm_sub (n : Nat) (f g : Nat → Int) : sm n (fun i => f i - g i) = sm n f - sm n g := by
  induction n with
  | zero => rfl
  | succ n ih => rw [sm, sm, sm, ih]; omega
theorem sm_swap (m n : Nat) (f : Nat → Nat → Int) : sm m (fun i => sm n (fun j => f i j)) = sm n (fun j => sm m (fun i => f i j)) := by
  induction m with
  | zero => simp only [sm]; exact (sm_zero (fun _ _ => rfl)).symm
  | succ m ih => simp only [sm]; rw [ih, sm_add]
theorem sm_single {n k : Nat} (hk : k < n) {f : Nat → Int} (h : ∀ i, i < n → i ≠ k → f i = 0) : sm n f = f k := by
  induction n with
  | zero => exact absurd hk (Nat.not_lt_zero _)
  | succ n ih =>
    rw [sm]
    by_cases e : k = n
    · subst e
      rw [sm_zero (fun i hi => h i (by omega) (by omega))]; omega
    · rw [ih (by omega) (fun i hi => h i (by omega)), h n (by omega) (fun z => e z.symm)]; omega
/-- signs -/
def sg (n : Nat) : Int := if n % 2 = 0 then 1 else -1
theorem sg_sq (n : Nat) : sg n * sg n = 1 := by unfold sg; split <;> rfl
theorem sg_add (a b : Nat) : sg (a + b) = sg a * sg b := by
  unfold sg
  rcases Nat.mod_two_eq_zero_or_one a with h1 | h1 <;> rcases Nat.mod_two_eq_zero_or_one b with h2 | h2 <;> simp [Nat.add_mod, h1, h2]
theorem sg_succ (a : Nat) : sg (a + 1) = - sg a := by rw [sg_add]; show sg a * (-1) = _; omega
/-- places without one -/
def up (p q : Nat) : Nat := if q < p then q else q + 1
theorem up_lt {p q : Nat} (h : q < p) : up p q = q := if_pos h
theorem up_ge {p q : Nat} (h : p ≤ q) : up p q = q + 1 := if_neg (by omega)
theorem up_ne (p q : Nat) : up p q ≠ p := by unfold up; split <;> omega
theorem sm_up (n p : Nat) (hp : p ≤ n) (f : Nat → Int) : sm n (fun q => f (up p q)) = sm (n + 1) (fun s => if s = p then 0 else f s) := by
  induction n with
  | zero =>
    have e : p = 0 := by omega
    subst e
    simp [sm]
  | succ n ih =>
    rw [sm]
    by_cases e : p = n + 1
    · subst e
      rw [show sm (n + 1 + 1) (fun s => if s = n + 1 then 0 else f s) = sm (n + 1) (fun s => if s = n + 1 then 0 else f s) + (if n + 1 = n + 1 then 0 else f (n + 1)) from rfl, if_pos rfl, Int.add_zero, up_lt (by omega)]
      rw [show sm (n + 1) (fun s => if s = n + 1 then 0 else f s) = sm n (fun s => if s = n + 1 then 0 else f s) + (if n = n + 1 then 0 else f n) from rfl, if_neg (by omega)]
      rw [sm_congr (fun i hi => by show f (up (n + 1) i) = (if i = n + 1 then 0 else f i); rw [up_lt (by omega), if_neg (by omega)])]
    · rw [ih (by omega), up_ge (by omega)]
      rw [show sm (n + 1 + 1) (fun s => if s = p then 0 else f s) = sm (n + 1) (fun s => if s = p then 0 else f s) + (if n + 1 = p then 0 else f (n + 1)) from rfl, if_neg (fun z => e z.symm)]
/-- matrices without a column, without a row -/
def dc (p : Nat) (A : Nat → Nat → Int) : Nat → Nat → Int := fun i j => A i (up p j)
def dr (p : Nat) (A : Nat → Nat → Int) : Nat → Nat → Int := fun i j => A (up p i) j
theorem dc_dr (p q : Nat) (A : Nat → Nat → Int) : dc p (dr q A) = dr q (dc p A) := rfl
/-- the determinant, by its last line -/
def det : Nat → (Nat → Nat → Int) → Int
  | 0, _ => 1
  | r + 1, A => sm (r + 1) (fun p => sg (r + p) * A r p * det r (dc p A))
theorem det_congr : ∀ {r : Nat} {A B : Nat → Nat → Int}, (∀ i j, i < r → j < r → A i j = B i j) → det r A = det r B
  | 0, _, _, _ => rfl
  | r + 1, A, B, h => by
    rw [det, det]
    refine sm_congr (fun p hp => ?_)
    rw [h r p (by omega) hp, det_congr (A := dc p A) (B := dc p B) (fun i j hi hj => h i (up p j) (by omega) (by unfold up; split <;> omega))]
/-- by its last column -/
theorem det_col : ∀ (r : Nat) (A : Nat → Nat → Int), det (r + 1) A = sm (r + 1) (fun i => sg (i + r) * A i r * det r (dr i A))
  | 0, A => by simp [det, sm, sg]
  | r + 1, A => by
    rw [det]
    rw [show sm (r + 1 + 1) (fun p => sg (r + 1 + p) * A (r + 1) p * det (r + 1) (dc p A)) = sm (r + 1) (fun p => sg (r + 1 + p) * A (r + 1) p * det (r + 1) (dc p A)) + sg (r + 1 + (r + 1)) * A (r + 1) (r + 1) * det (r + 1) (dc (r + 1) A) from rfl]
    rw [show sm (r + 1 + 1) (fun i => sg (i + (r + 1)) * A i (r + 1) * det (r + 1) (dr i A)) = sm (r + 1) (fun i => sg (i + (r + 1)) * A i (r + 1) * det (r + 1) (dr i A)) + sg (r + 1 + (r + 1)) * A (r + 1) (r + 1) * det (r + 1) (dr (r + 1) A) from rfl]
    have e1 : det (r + 1) (dc (r + 1) A) = det (r + 1) (dr (r + 1) A) := det_congr (fun i j hi hj => by show A i (up (r + 1) j) = A (up (r + 1) i) j; rw [up_lt hj, up_lt hi])
    rw [e1]
    congr 1
    have e2 : ∀ p, p < r + 1 → sg (r + 1 + p) * A (r + 1) p * det (r + 1) (dc p A) = sm (r + 1) (fun i => sg (r + 1 + p) * A (r + 1) p * (sg (i + r) * A i (r + 1) * det r (dr i (dc p A)))) := by
      intro p hp
      rw [sm_mul, det_col r (dc p A)]
      congr 1
      refine sm_congr (fun i _ => ?_)
      show sg (i + r) * A i (up p r) * _ = _
      rw [up_ge (by omega)]
    have e3 : ∀ i, i < r + 1 → sg (i + (r + 1)) * A i (r + 1) * det (r + 1) (dr i A) = sm (r + 1) (fun p => sg (r + 1 + p) * A (r + 1) p * (sg (i + r) * A i (r + 1) * det r (dr i (dc p A)))) := by
      intro i hi
      rw [det, ← sm_mul]
      refine sm_congr (fun p _ => ?_)
      show sg (i + (r + 1)) * A i (r + 1) * (sg (r + p) * A (up i r) p * det r (dr i (dc p A))) = _
      rw [up_ge (show i ≤ r by omega)]
      have s1 : sg (i + (r + 1)) = - (sg i * sg r) := by rw [show i + (r + 1) = (i + r) + 1 by omega, sg_succ, sg_add]
      have s2 : sg (r + 1 + p) = - (sg r * sg p) := by rw [show r + 1 + p = (r + p) + 1 by omega, sg_succ, sg_add]
      rw [s1, s2, sg_add r p, sg_add i r]
      generalize det r (dr i (dc p A)) = d
      generalize A i (r + 1) = a
      generalize A (r + 1) p = b
      generalize sg i = x
      generalize sg r = y
      generalize sg p = z
      grind
    rw [sm_congr e2, sm_congr e3, sm_swap]
/-- the mirror -/
def tr (A : Nat → Nat → Int) : Nat → Nat → Int := fun i j => A j i
theorem det_tr : ∀ (r : Nat) (A : Nat → Nat → Int), det r (tr A) = det r A
  | 0, _ => rfl
  | r + 1, A => by
    rw [det_col r A, det]
    refine sm_congr (fun p _ => ?_)
    show sg (r + p) * A p r * det r (tr (dr p A)) = _
    rw [det_tr r (dr p A), Nat.add_comm r p]
/-- two neighbour lines exchanged -/
def sw (k : Nat) (A : Nat → Nat → Int) : Nat → Nat → Int := fun i => if i = k then A (k + 1) else if i = k + 1 then A k else A i
def dn (p s : Nat) : Nat := if s < p then s else s - 1
theorem dn_up (p q : Nat) : dn p (up p q) = q := by
  unfold dn up
  by_cases h : q < p
  · rw [if_pos h, if_pos h]
  · rw [if_neg h, if_neg (by omega)]; omega
theorem up_up {p s : Nat} (h : p ≠ s) (j : Nat) : up p (up (dn p s) j) = up s (up (dn s p) j) := by
  unfold up dn
  rcases Nat.lt_or_gt_of_ne h with h1 | h1
  · rw [if_neg (show ¬ s < p by omega), if_pos h1]
    by_cases a : j < s - 1
    · rw [if_pos a]
      by_cases b : j < p
      · simp only [b, if_true]; rw [if_pos (show j < s by omega)]
      · simp only [b, if_false]; rw [if_pos (show j + 1 < s by omega)]
    · rw [if_neg a, if_neg (show ¬ j + 1 < p by omega), if_neg (show ¬ j < p by omega), if_neg (show ¬ j + 1 < s by omega)]
  · rw [if_pos h1, if_neg (show ¬ p < s by omega)]
    by_cases a : j < s
    · rw [if_pos a, if_pos (show j < p by omega), if_pos (show j < p - 1 by omega), if_pos a]
    · rw [if_neg a]
      by_cases b : j < p - 1
      · rw [if_pos (show j + 1 < p by omega), if_pos b, if_neg a]
      · rw [if_neg (show ¬ j + 1 < p by omega), if_neg b, if_neg (show ¬ j + 1 < s by omega)]
theorem det_two (k : Nat) (A : Nat → Nat → Int) : det (k + 2) A = sm (k + 2) (fun p => sm (k + 2) (fun s => if s = p then 0 else sg (k + 1 + p) * sg (k + dn p s) * A (k + 1) p * A k s * det k (dc (dn p s) (dc p A)))) := by
  rw [det]
  refine sm_congr (fun p hp => ?_)
  rw [det, ← sm_mul]
  rw [← sm_up (k + 1) p (by omega) (fun s => sg (k + 1 + p) * sg (k + dn p s) * A (k + 1) p * A k s * det k (dc (dn p s) (dc p A)))]
  refine sm_congr (fun q _ => ?_)
  show sg (k + 1 + p) * A (k + 1) p * (sg (k + q) * A k (up p q) * det k (dc q (dc p A))) = _
  rw [dn_up]
  generalize det k (dc q (dc p A)) = d
  grind
theorem sg_flip (k : Nat) {p s : Nat} (h : p ≠ s) : sg (k + 1 + s) * sg (k + dn s p) = - (sg (k + 1 + p) * sg (k + dn p s)) := by
  rw [← sg_add, ← sg_add]
  unfold dn
  rcases Nat.lt_or_gt_of_ne h with h1 | h1
  · rw [if_pos h1, if_neg (show ¬ s < p by omega), ← sg_succ]
    congr 1; omega
  · rw [if_pos h1, if_neg (show ¬ p < s by omega)]
    rw [show k + 1 + p + (k + s) = (k + 1 + s + (k + (p - 1))) + 1 by omega, sg_succ]; omega
theorem det_sw : ∀ (r : Nat) (A : Nat → Nat → Int) (k : Nat), k + 1 < r → det r (sw k A) = - det r A
  | 0, _, _, h => absurd h (Nat.not_lt_zero _)
  | r + 1, A, k, h => by
    by_cases e : k + 1 = r
    · subst e
      rw [det_two k (sw k A), det_two k A, ← sm_neg, sm_swap]
      refine sm_congr (fun p hp => ?_)
      rw [← sm_neg]
      refine sm_congr (fun s hs => ?_)
      by_cases ps : s = p
      · subst ps; simp
      · rw [if_neg (fun z => ps z.symm), if_neg ps]
        have e1 : sw k A (k + 1) = A k := by unfold sw; rw [if_neg (by omega), if_pos rfl]
        have e2 : sw k A k = A (k + 1) := by unfold sw; rw [if_pos rfl]
        rw [e1, e2]
        have e3 : det k (dc (dn s p) (dc s (sw k A))) = det k (dc (dn p s) (dc p A)) := det_congr (fun i j hi hj => by
          show sw k A i (up s (up (dn s p) j)) = A i (up p (up (dn p s) j))
          rw [up_up (fun z => ps z.symm) j]
          unfold sw; rw [if_neg (by omega), if_neg (by omega)])
        rw [e3]
        have e4 := sg_flip k (p := p) (s := s) (fun z => ps z.symm)
        generalize det k (dc (dn p s) (dc p A)) = d
        rw [e4]
        grind
    · rw [det, det, ← sm_neg]
      refine sm_congr (fun p hp => ?_)
      have e1 : sw k A r = A r := by unfold sw; rw [if_neg (by omega), if_neg (by omega)]
      have e2 : dc p (sw k A) = sw k (dc p A) := by
        funext i j
        unfold dc sw
        by_cases h1 : i = k
        · simp only [h1, if_true]
        · by_cases h2 : i = k + 1
          · simp only [h2, if_true]; rw [if_neg (by omega), if_neg (by omega)]
          · rw [if_neg h1, if_neg h1, if_neg h2, if_neg h2]
      rw [e1, e2, det_sw r (dc p A) k (by omega)]
      generalize det r (dc p A) = d
      grind
theorem det_rows : ∀ (d r : Nat) (A : Nat → Nat → Int) (a : Nat), a + d + 1 < r → (∀ j, j < r → A a j = A (a + d + 1) j) → det r A = 0
  | 0, r, A, a, h, he => by
    have h1 := det_sw r A a h
    have h2 : det r (sw a A) = det r A := det_congr (fun i j hi hj => by
      unfold sw
      by_cases e : i = a
      · subst e; rw [if_pos rfl]; exact (he j hj).symm
      · rw [if_neg e]
        by_cases e2 : i = a + 1
        · subst e2; rw [if_pos rfl]; exact he j hj
        · rw [if_neg e2])
    omega
  | d + 1, r, A, a, h, he => by
    have h1 := det_sw r A (a + d + 1) (by omega)
    have h2 : det r (sw (a + d + 1) A) = 0 := det_rows d r (sw (a + d + 1) A) a (by omega) (fun j hj => by
      unfold sw
      rw [if_neg (by omega), if_neg (by omega), if_pos rfl]
      exact he j hj)
    omega
