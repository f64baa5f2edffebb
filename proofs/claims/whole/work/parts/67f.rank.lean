/-! rank: which lines are found, one trial less, all SETTINGS -/
theorem UU_cz {T : Nat → Nat → Int} {l1 l2 : Nat → Nat} {r : Nat} (h : ∀ a, a < r → l1 a = l2 a) (X : Nat → Int) (i : Nat) : UU T l1 r X i = UU T l2 r X i := UU_cong h X i
/-- a line that is not found depends on those that are -/
theorem gln_dep {n : Nat} {T : Nat → Nat → Int} (hT : psd n T) {k : Nat} (hk : k < n) (h0 : UU T (gln T k).2 (gln T k).1 (fun i => T i k) k = 0) : ∀ m, k < m → m ≤ n → ∀ i, i < n → UU T (gln T m).2 (gln T m).1 (fun j => T j k) i = 0
  | 0, h, _, _, _ => absurd h (Nat.not_lt_zero _)
  | m + 1, h, hm, i, hi => by
    by_cases e : k = m
    · subst e
      rw [gln, if_pos h0]
      obtain ⟨_, g2, _, _⟩ := gln_ok hT k (by omega)
      exact piv_zero hT (fun a ha => by have := g2 a ha; omega) hk h0 hi
    · have ih := gln_dep hT hk h0 m (by omega) (by omega)
      rw [gln]
      by_cases e2 : UU T (gln T m).2 (gln T m).1 (fun i => T i m) m = 0
      · rw [if_pos e2]; exact ih i hi
      · rw [if_neg e2]
        obtain ⟨_, g2, _, g4⟩ := gln_ok hT m (by omega)
        have hc : ∀ a, a < (gln T m).1 → (fun a => if a = (gln T m).1 then m else (gln T m).2 a) a = (gln T m).2 a := fun a ha => if_neg (by omega)
        have hr : (fun a => if a = (gln T m).1 then m else (gln T m).2 a) (gln T m).1 = m := if_pos rfl
        have g5 : 0 < DD T (fun a => if a = (gln T m).1 then m else (gln T m).2 a) ((gln T m).1 + 1) := by
          have := (gln_ok hT (m + 1) hm).2.2.2
          rw [gln, if_neg e2] at this
          exact this
        dsimp only
        generalize (gln T m).1 = r at *
        generalize (gln T m).2 = ln at *
        generalize hln2 : (fun a => if a = r then m else ln a) = ln2 at *
        have hD : DD T ln2 r = DD T ln r := DD_cong hc
        have st := UU_step T hT.1 ln2 r (by rw [hD]; omega) (by omega) (fun j => T j k) i
        rw [UU_cong hc, UU_cong hc, UU_cong hc, hr, ih i hi, ih m (by omega), hD] at st
        have : DD T ln r * UU T ln2 (r + 1) (fun j => T j k) i = 0 := by rw [st]; simp
        rcases Int.mul_eq_zero.1 this with h | h
        · omega
        · exact h
theorem gln_mem {T : Nat → Nat → Int} : ∀ {m k : Nat}, k < m → ((∃ a, a < (gln T m).1 ∧ (gln T m).2 a = k) ↔ UU T (gln T k).2 (gln T k).1 (fun i => T i k) k ≠ 0)
  | 0, _, h => absurd h (Nat.not_lt_zero _)
  | m + 1, k, h => by
    obtain ⟨g1, g2⟩ := gln_le T m
    rw [gln]
    by_cases e2 : UU T (gln T m).2 (gln T m).1 (fun i => T i m) m = 0
    · rw [if_pos e2]
      by_cases e : k = m
      · subst e
        exact ⟨fun ⟨a, ha, e⟩ => absurd (g2 a ha) (by omega), fun z => absurd e2 z⟩
      · exact gln_mem (by omega)
    · rw [if_neg e2]
      dsimp only
      by_cases e : k = m
      · subst e
        exact ⟨fun _ => e2, fun _ => ⟨(gln T k).1, by omega, if_pos rfl⟩⟩
      · rw [← gln_mem (T := T) (m := m) (k := k) (by omega)]
        refine ⟨fun ⟨a, ha, ea⟩ => ?_, fun ⟨a, ha, ea⟩ => ⟨a, by omega, by rw [if_neg (by omega)]; exact ea⟩⟩
        by_cases e3 : a = (gln T m).1
        · rw [if_pos e3] at ea; omega
        · rw [if_neg e3] at ea; exact ⟨a, by omega, ea⟩
/-- all columns depend on the lines that are found -/
theorem gln_col {n : Nat} {T : Nat → Nat → Int} (hT : psd n T) {m j : Nat} (hm : m ≤ n) (hj : j < m) {i : Nat} (hi : i < n) : UU T (gln T m).2 (gln T m).1 (fun a => T a j) i = 0 := by
  by_cases e : UU T (gln T j).2 (gln T j).1 (fun i => T i j) j = 0
  · exact gln_dep hT (by omega) e m hj hm i hi
  · obtain ⟨a, ha, ea⟩ := (gln_mem hj).2 e
    rw [UU_sym T hT.1, ← ea]
    exact UU_line T _ _ _ ha
/-- not found: a vector up to k that the table sends to 0 -/
theorem pick_ker {n : Nat} {T : Nat → Nat → Int} (hT : psd n T) {k : Nat} (hk : k < n) : UU T (gln T k).2 (gln T k).1 (fun i => T i k) k = 0 ↔ ∃ v : Nat → Int, v k ≠ 0 ∧ (∀ j, k < j → v j = 0) ∧ ∀ i, i < n → mv n T v i = 0 := by
  obtain ⟨g1, g2, g3, g4⟩ := gln_ok hT k (by omega)
  have hl : ∀ a, a < (gln T k).1 → (gln T k).2 a < n := fun a ha => by have := g2 a ha; omega
  refine ⟨fun h => ⟨kv T (gln T k).2 (gln T k).1 k, ?_, fun j hj => ?_, fun i hi => ?_⟩, fun ⟨v, v1, v2, v3⟩ => ?_⟩
  · unfold kv; rw [pv_k (fun a ha => by have := g2 a ha; omega)]; omega
  · unfold kv; exact pv_o (fun a ha => by have := g2 a ha; omega) (by omega)
  · rw [mv_kv T hl hk]; exact piv_zero hT hl hk h hi
  · have e1 : qf n T v (kv T (gln T k).2 (gln T k).1 k) = v k * UU T (gln T k).2 (gln T k).1 (fun i => T i k) k := by
      unfold qf
      rw [sm_single hk (fun i hi hne => ?_), mv_kv T hl hk]
      rw [mv_kv T hl hk]
      rcases Nat.lt_trichotomy i k with h | h | h
      · have : UU T (gln T k).2 (gln T k).1 (fun j => T j k) i = 0 := by
          by_cases e : UU T (gln T i).2 (gln T i).1 (fun j => T j i) i = 0
          · rw [UU_sym T hT.1]; exact gln_dep hT (by omega) e k h (by omega) k hk
          · obtain ⟨a, ha, ea⟩ := (gln_mem h).2 e
            rw [← ea]; exact UU_line T _ _ _ ha
        rw [this]; simp
      · exact absurd h hne
      · rw [v2 i h]; simp
    have e2 : qf n T v (kv T (gln T k).2 (gln T k).1 k) = 0 := by
      rw [qf_sym n T hT.1]
      exact sm_zero (fun i hi => by rw [v3 i hi]; simp)
    rw [e1] at e2
    rcases Int.mul_eq_zero.1 e2 with h | h
    · exact absurd h v1
    · exact h
/-- how many lines -/
theorem gln_succ (T : Nat → Nat → Int) (k : Nat) : (gln T (k + 1)).1 = (gln T k).1 + (if UU T (gln T k).2 (gln T k).1 (fun i => T i k) k = 0 then 0 else 1) := by
  rw [gln]; split <;> rfl
theorem gln_cmp {T T' : Nat → Nat → Int} : ∀ m, (∀ k, k < m → UU T (gln T k).2 (gln T k).1 (fun i => T i k) k = 0 → UU T' (gln T' k).2 (gln T' k).1 (fun i => T' i k) k = 0) → (gln T' m).1 ≤ (gln T m).1 ∧ ((gln T' m).1 = (gln T m).1 ↔ ∀ k, k < m → UU T' (gln T' k).2 (gln T' k).1 (fun i => T' i k) k = 0 → UU T (gln T k).2 (gln T k).1 (fun i => T i k) k = 0)
  | 0, _ => ⟨Nat.le_refl _, fun _ k hk => absurd hk (Nat.not_lt_zero _), fun _ => rfl⟩
  | m + 1, h => by
    obtain ⟨i1, i2⟩ := gln_cmp m (fun k hk => h k (by omega))
    have hm := h m (by omega)
    rw [gln_succ T m, gln_succ T' m]
    by_cases a : UU T (gln T m).2 (gln T m).1 (fun i => T i m) m = 0
    · have b := hm a
      rw [if_pos a, if_pos b]
      refine ⟨by omega, fun e k hk hz => ?_, fun hz => ?_⟩
      · by_cases e2 : k = m
        · subst e2; exact a
        · exact i2.1 (by omega) k (by omega) hz
      · have := i2.2 (fun k hk => hz k (by omega)); omega
    · rw [if_neg a]
      by_cases b : UU T' (gln T' m).2 (gln T' m).1 (fun i => T' i m) m = 0
      · rw [if_pos b]
        exact ⟨by omega, fun e => by omega, fun hz => absurd (hz m (by omega) b) a⟩
      · rw [if_neg b]
        refine ⟨by omega, fun e k hk hz => ?_, fun hz => ?_⟩
        · by_cases e2 : k = m
          · subst e2; exact absurd hz b
          · exact i2.1 (by omega) k (by omega) hz
        · have := i2.2 (fun k hk => hz k (by omega)); omega
theorem SS_sum (T : Nat → Nat → Int) (ln : Nat → Nat) (r n : Nat) (v : Nat → Int) (X : Nat → Nat → Int) (a : Nat) : SS T ln r (fun i => sm n (fun j => v j * X j i)) a = sm n (fun j => v j * SS T ln r (X j) a) := by
  unfold SS
  rw [sm_congr (fun b _ => (sm_mul n (adj r (sb T ln) a b) (fun j => v j * X j (ln b))).symm), sm_swap]
  refine sm_congr (fun j _ => ?_)
  rw [← sm_mul]
  exact sm_congr (fun b _ => by rw [← Int.mul_assoc, ← Int.mul_assoc, Int.mul_comm (v j)])
theorem UU_sum (T : Nat → Nat → Int) (ln : Nat → Nat) (r n : Nat) (v : Nat → Int) (X : Nat → Nat → Int) (i : Nat) : UU T ln r (fun i => sm n (fun j => v j * X j i)) i = sm n (fun j => v j * UU T ln r (X j) i) := by
  unfold UU
  rw [sm_congr (f := fun a => T i (ln a) * SS T ln r (fun i => sm n (fun j => v j * X j i)) a) (g := fun a => sm n (fun j => v j * (T i (ln a) * SS T ln r (X j) a))) (fun a _ => by rw [SS_sum, ← sm_mul]; exact sm_congr (fun j _ => by rw [← Int.mul_assoc, Int.mul_comm (T i (ln a)), Int.mul_assoc])), sm_swap, ← sm_mulr, ← sm_sub]
  refine sm_congr (fun j _ => ?_)
  rw [sm_mul, Int.mul_sub, Int.mul_assoc]
theorem UU_scale (T : Nat → Nat → Int) (ln : Nat → Nat) (r : Nat) (c : Int) (X : Nat → Int) (i : Nat) : UU T ln r (fun i => c * X i) i = c * UU T ln r X i := by
  have h := UU_sum T ln r 1 (fun _ => c) (fun _ => X) i
  simp only [sm, Int.zero_add] at h
  exact h
/-- what a known sum is to a vector: D (v x) = (T v) w -/
theorem known_dot {n : Nat} {T : Nat → Nat → Int} (hT : ∀ i j, T i j = T j i) {ln : Nat → Nat} {r : Nat} (X v : Nat → Int) (hX : ∀ j, j < n → UU T ln r X j = 0) : DD T ln r * sm n (fun j => v j * X j) = sm r (fun a => SS T ln r X a * mv n T v (ln a)) := by
  have e1 : DD T ln r * sm n (fun j => v j * X j) = sm n (fun j => sm r (fun a => v j * (T j (ln a) * SS T ln r X a))) := by
    rw [← sm_mul]
    refine sm_congr (fun j hj => ?_)
    have h := hX j hj
    unfold UU at h
    have h2 : X j * DD T ln r = sm r (fun a => T j (ln a) * SS T ln r X a) := by omega
    rw [sm_mul, ← h2]
    generalize DD T ln r = d
    grind
  rw [e1, sm_swap]
  refine sm_congr (fun a _ => ?_)
  unfold mv
  rw [← sm_mul]
  refine sm_congr (fun j _ => ?_)
  rw [hT (ln a) j]
  generalize SS T ln r X a = s
  grind
/-- one trial less lowers the rank just where the spread is 1 -/
theorem needed_iff {n : Nat} {T T' : Nat → Nat → Int} (hn : 1 ≤ n) (hT : psd n T) (hT' : psd n T') {x : Nat → Int} (h : ∀ i j, i < n → j < n → T i j = T' i j + x i * x j) : (gln T' n).1 < (gln T n).1 ↔ QQ T (gln T n).2 (gln T n).1 x x = DD T (gln T n).2 (gln T n).1 := by
  have hm : ∀ v i, i < n → mv n T v i = mv n T' v i + x i * sm n (fun j => x j * v j) := fun v i hi => by
    unfold mv
    rw [← sm_mul, ← sm_add]
    refine sm_congr (fun j hj => ?_)
    rw [h i j hi hj]
    generalize T' i j = t
    grind
  have hq : ∀ v, qf n T v v = qf n T' v v + sm n (fun j => x j * v j) * sm n (fun j => x j * v j) := fun v => by
    unfold qf
    rw [← sm_mulr, ← sm_add]
    refine sm_congr (fun i hi => ?_)
    rw [hm v i hi]
    generalize mv n T' v i = t
    generalize sm n (fun j => x j * v j) = s
    grind
  have hker : ∀ v : Nat → Int, (∀ i, i < n → mv n T v i = 0) → ∀ i, i < n → mv n T' v i = 0 := fun v hv i hi => by
    have q0 : qf n T v v = 0 := sm_zero (fun i hi => by rw [hv i hi]; simp)
    have q1 := hT'.2 v
    have q2 := hq v
    have q3 : 0 ≤ sm n (fun j => x j * v j) * sm n (fun j => x j * v j) := by
      rcases Int.le_total 0 (sm n (fun j => x j * v j)) with h | h
      · exact Int.mul_nonneg h h
      · exact Int.mul_nonneg_of_nonpos_of_nonpos h h
    exact psd_ker hT' (by omega) hi
  obtain ⟨g1, g2, g3, g4⟩ := gln_ok hT n (Nat.le_refl _)
  have hcmp := gln_cmp (T := T) (T' := T') n (fun k hk hz => by
    obtain ⟨v, v1, v2, v3⟩ := (pick_ker hT hk).1 hz
    exact (pick_ker hT' hk).2 ⟨v, v1, v2, hker v v3⟩)
  have hcol : ∀ j, j < n → ∀ i, i < n → UU T (gln T n).2 (gln T n).1 (fun a => T a j) i = 0 := fun j hj i hi => gln_col hT (Nat.le_refl _) hj hi
  have hmem := fun k (hk : k < n) => gln_mem (T := T) (m := n) (k := k) hk
  generalize (gln T n).1 = r at *
  generalize (gln T n).2 = ln at *
  constructor
  · intro hlt
    have hne : ¬ ∀ k, k < n → UU T' (gln T' k).2 (gln T' k).1 (fun i => T' i k) k = 0 → UU T (gln T k).2 (gln T k).1 (fun i => T i k) k = 0 := fun hz => by have := hcmp.2.2 hz; omega
    obtain ⟨k, hk, hz, hnz⟩ : ∃ k, k < n ∧ UU T' (gln T' k).2 (gln T' k).1 (fun i => T' i k) k = 0 ∧ UU T (gln T k).2 (gln T k).1 (fun i => T i k) k ≠ 0 := by
      refine Classical.byContradiction (fun hno => hne (fun k hk hz => Classical.byContradiction (fun hz2 => hno ⟨k, hk, hz, hz2⟩)))
    obtain ⟨v, v1, v2, v3⟩ := (pick_ker hT' hk).1 hz
    have hTv : ∀ i, i < n → mv n T v i = x i * sm n (fun j => x j * v j) := fun i hi => by rw [hm v i hi, v3 i hi]; simp
    by_cases c0 : sm n (fun j => x j * v j) = 0
    · exact absurd ((pick_ker hT hk).2 ⟨v, v1, v2, fun i hi => by rw [hTv i hi, c0]; simp⟩) hnz
    · have hx : ∀ i, i < n → UU T ln r x i = 0 := fun i hi => by
        have e1 := UU_sum T ln r n v (fun j a => T a j) i
        rw [sm_zero (f := fun j => v j * UU T ln r (fun a => T a j) i) (fun j hj => by rw [hcol j hj i hi]; simp)] at e1
        have e2 : UU T ln r (fun i => sm n (fun j => v j * T i j)) i = UU T ln r (fun i => sm n (fun j => x j * v j) * x i) i := by
          have ec : ∀ a, a < n → sm n (fun j => v j * T a j) = sm n (fun j => x j * v j) * x a := fun a ha => by
            rw [Int.mul_comm _ (x a), ← hTv a ha]
            unfold mv
            exact sm_congr (fun j _ => Int.mul_comm _ _)
          unfold UU SS
          dsimp only
          rw [ec i hi]
          congr 1
          refine sm_congr (fun a ha => ?_)
          congr 1
          exact sm_congr (fun b hb => by rw [ec _ (g2 b hb)])
        rw [e2, UU_scale] at e1
        rcases Int.mul_eq_zero.1 e1 with h | h
        · exact absurd h c0
        · exact h
      have kd := known_dot hT.1 x v hx
      rw [sm_congr (f := fun a => SS T ln r x a * mv n T v (ln a)) (g := fun a => sm n (fun j => x j * v j) * (x (ln a) * SS T ln r x a)) (fun a ha => by
        rw [hTv _ (g2 a ha)]
        generalize SS T ln r x a = s
        generalize sm n (fun j => x j * v j) = c
        grind), sm_mul, ← QQ_SS, sm_congr (f := fun j => v j * x j) (g := fun j => x j * v j) (fun j _ => Int.mul_comm _ _), Int.mul_comm] at kd
      exact (Int.eq_of_mul_eq_mul_left c0 kd).symm
  · intro hQ
    have hle := hcmp.1
    rcases Nat.lt_or_ge (gln T' n).1 r with h1 | h1
    · exact h1
    · exfalso
      have hall := hcmp.2.1 (by omega)
      have hp := sm_pv (n := n) g2 (SS T ln r x) (show 0 < n by omega) 0
      have hTw : ∀ i, mv n T (pv r ln (SS T ln r x) 0 0) i = sm r (fun a => T i (ln a) * SS T ln r x a) := fun i => by
        unfold mv; rw [hp]; simp
      have hxw : sm n (fun j => x j * pv r ln (SS T ln r x) 0 0 j) = DD T ln r := by
        rw [hp, ← QQ_SS, hQ]; simp
      have hz : ∀ a, a < r → mv n T' (pv r ln (SS T ln r x) 0 0) (ln a) = 0 := fun a ha => by
        have e1 := hm (pv r ln (SS T ln r x) 0 0) (ln a) (g2 a ha)
        rw [hTw, hxw, M_SS T ln r x ha] at e1
        omega
      have hq0 : qf n T' (pv r ln (SS T ln r x) 0 0) (pv r ln (SS T ln r x) 0 0) = 0 := by
        unfold qf
        rw [sm_congr (fun i _ => Int.mul_comm _ _), hp, sm_zero (fun a ha => by rw [hz a ha]; simp)]; simp
      have hw0 : ∀ i, i < n → mv n T' (pv r ln (SS T ln r x) 0 0) i = 0 := fun i hi => psd_ker hT' hq0 hi
      have hD : DD T ln r ≠ 0 := by omega
      have hsup : ∀ k, k < n → pv r ln (SS T ln r x) 0 0 k ≠ 0 → ∃ a, a < r ∧ ln a = k := fun k hk hne => by
        rcases spb_or ln r k with h | h
        · exact h
        · refine absurd ?_ hne
          unfold pv
          rw [sm_zero (fun a ha => if_neg (h a ha))]
          split <;> rfl
      generalize pv r ln (SS T ln r x) 0 0 = w at *
      -- the last place of w that is not 0
      have hlast : ∀ m, m ≤ n → (∀ j, m ≤ j → j < n → w j = 0) → (∃ k, k < m ∧ w k ≠ 0 ∧ ∀ j, k < j → j < n → w j = 0) ∨ ∀ j, j < n → w j = 0 := by
        intro m
        induction m with
        | zero => intro _ h; exact Or.inr (fun j hj => h j (Nat.zero_le _) hj)
        | succ m ih =>
          intro hm h
          by_cases e : w m = 0
          · rcases ih (by omega) (fun j h1 h2 => by
              by_cases e2 : j = m
              · subst e2; exact e
              · exact h j (by omega) h2) with ⟨k, k1, k2, k3⟩ | h2
            · exact Or.inl ⟨k, by omega, k2, k3⟩
            · exact Or.inr h2
          · exact Or.inl ⟨m, by omega, e, fun j h1 h2 => h j (by omega) h2⟩
      rcases hlast n (Nat.le_refl _) (fun j h1 h2 => absurd h2 (by omega)) with ⟨k, k1, k2, k3⟩ | hall0
      · obtain ⟨a, ha, ea⟩ := hsup k k1 k2
        have pk1 := (hmem k k1).1 ⟨a, ha, ea⟩
        refine pk1 (hall k k1 ((pick_ker hT' k1).2 ⟨fun j => if j < n then w j else 0, ?_, fun j hj => ?_, fun i hi => ?_⟩))
        · dsimp only; rw [if_pos k1]; exact k2
        · dsimp only; split
          · exact k3 j hj (by assumption)
          · rfl
        · have := hw0 i hi
          unfold mv at this ⊢
          refine Eq.trans (sm_congr (fun j hj => ?_)) this
          dsimp only; rw [if_pos hj]
      · exact hD (by rw [← hxw]; exact sm_zero (fun j hj => by rw [hall0 j hj]; simp))
