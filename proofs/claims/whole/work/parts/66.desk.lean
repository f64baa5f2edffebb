/-! start, what is kept, undo -/
theorem wp_lays {g : Nat → Int32} {a : Int32} {k : (Nat → Int32) → Prop} (h : ∀ g', LAY a g' → k g') : wpX7_lays g a k := by
  unfold wpX7_lays
  refine wloop_n (fun i st => ∃ f, st = (nI i, f) ∧ ∀ j, j < i → f j = 0) 202 ⟨g, rfl, fun j hj => absurd hj (Nat.not_lt_zero _)⟩ ?_ ?_
  · rintro i st again hi ⟨f, rfl, hf⟩ hag
    rw [wbX7_lays_2]
    refine pk_le 202 i (fun z => absurd z (by omega)) (fun _ => ⟨vp_in_nI hi (by omega), ?_⟩)
    rw [nI_clamp (by omega), nI_1]
    refine hag _ ⟨_, rfl, fun j hj => ?_⟩
    by_cases e : j = i
    · subst e; rw [pk_us]
    · rw [pk_un e, hf j (by omega)]
  · rintro st again ⟨f, rfl, hf⟩
    rw [wbX7_lays_2]
    refine pk_le 202 202 (fun _ => h _ ⟨?_, pk_us, fun i h1 h2 => ?_⟩) (fun z => absurd z (by omega))
    · rw [pk_un (by omega), pk_us]
    · rw [pk_un (by omega), pk_un (by omega), hf i h2]
theorem wp_begins {d : DS} {g : Nat → Int32} {b : Int32} (hb : BR d g b) {k : (Nat → Int32) → Int32 → Prop} (h : ∀ g' b', b' ≠ 0 → RR d g' → k g' b') : wpX7_begins g b k := by
  unfold wpX7_begins
  rcases hb with ⟨h1, h2⟩ | ⟨h1, h2⟩
  · exact ⟨fun z => absurd z h1, fun _ => h g b h1 h2⟩
  · exact ⟨fun _ => wp_lays (fun g' hg => h g' 1 (by decide) (h2 g' hg)), fun z => absurd h1 z⟩
theorem wp_keepX {h p : Nat} (hh : h ≤ 8) (hp : p < 8) {c t : Int32} (hc : c = nI h) (ht : t = nI p) {a0 a1 a2 a3 : Int32} {a4 : Int64} {a5 a6 a7 a8 a9 a10 : Nat → Int32} {hs : Nat → DS} {k : Int32 → Int32 → (Nat → DS) → Prop}
    (hk : k (nI (min (h + 1) 8)) (nI ((p + 1) % 8)) (va_up hs p (a0, a1, a2, a3, a4, a5, a6, a7, a8, a9, a10))) : wpX3_keep c t a0 a1 a2 a3 a4 a5 a6 a7 a8 a9 a10 hs k := by
  subst hc ht
  unfold wpX3_keep
  refine ⟨vp_in_nI hp (by omega), ?_⟩
  rw [nI_clamp (by omega), nI_1, nI_1, show (8 : Int32) = nI 8 from rfl, pk_rem (by omega) (by omega) (by omega)]
  have e : (if nI 8 < nI (h + 1) then nI 8 else nI (h + 1)) = nI (min (h + 1) 8) := by
    by_cases e1 : h = 8
    · subst e1; rfl
    · rw [if_neg (nI_nlt (by omega) (by omega)), Nat.min_eq_left (by omega)]
  rw [e]; exact hk
/-- the reference's kept rows after a keep -/
def KP (h : Nat) (kept g kept' : Nat → Int32) : Prop := (∀ i, i < 202 → kept' (202 * (min (h + 1) 8 - 1) + i) = g i) ∧ ∀ j, j < min (h + 1) 8 - 1 → ∀ i, i < 202 → kept' (202 * j + i) = kept (202 * (j + (h + 1 - min (h + 1) 8)) + i)
theorem wp_keepM2 {h : Nat} (hh : h < 8) {g kept : Nat → Int32} {k : (Nat → Int32) → Int32 → Prop}
    (hk : ∀ kept', (∀ i, i < 202 → kept' (202 * h + i) = g i) → (∀ j, j < 202 * h → kept' j = kept j) → k kept' (nI (h + 1))) : wjX7_keep_46 g k kept (nI h) := by
  unfold wjX7_keep_46
  have e0 : nI h * (202 : Int32) = nI (h * 202) := pk_mul h 202
  refine wloop_n (fun i st => ∃ f, st = (nI i, f) ∧ (∀ j, j < i → f (202 * h + j) = g j) ∧ ∀ j, j < 202 * h → f j = kept j) 202 ⟨kept, rfl, fun j hj => absurd hj (Nat.not_lt_zero _), fun j _ => rfl⟩ ?_ ?_
  · rintro i st again hi ⟨f, rfl, hf, hf2⟩ hag
    rw [wbX7_keep_48, e0, nI_add]
    refine pk_le 202 i (fun z => absurd z (by omega)) (fun _ => ⟨vp_in_nI hi (by omega), vp_in_nI (by omega) (by omega), ?_⟩)
    rw [nI_clamp (by omega), nI_clamp (by omega), nI_1]
    refine hag _ ⟨_, rfl, fun j hj => ?_, fun j hj => ?_⟩
    · by_cases e : j = i
      · subst e; rw [Nat.mul_comm, pk_us]
      · rw [pk_un (by omega), hf j (by omega)]
    · rw [pk_un (by omega), hf2 j hj]
  · rintro st again ⟨f, rfl, hf, hf2⟩
    rw [wbX7_keep_48]
    refine pk_le 202 202 (fun _ => ?_) (fun z => absurd z (by omega))
    rw [nI_1]; exact hk f hf hf2
theorem wp_keepM {h : Nat} (hh : h ≤ 8) {g kept : Nat → Int32} {ks : Int32} (hks : ks = nI h) {k : (Nat → Int32) → Int32 → Prop}
    (hk : ∀ kept', KP h kept g kept' → k kept' (nI (min (h + 1) 8))) : wpX7_keep g kept ks k := by
  subst hks
  unfold wpX7_keep
  refine pk_eq h 8 (fun z => ?_) (fun z => ?_)
  · subst z
    refine wloop_n (fun i st => ∃ f, st = (nI i, f) ∧ (∀ j, j < i → f j = kept (j + 202)) ∧ ∀ j, i ≤ j → f j = kept j) 1414 ⟨kept, rfl, fun j hj => absurd hj (Nat.not_lt_zero _), fun j _ => rfl⟩ ?_ ?_
    · rintro i st again hi ⟨f, rfl, hf, hf2⟩ hag
      rw [wbX7_keep_11, show (202 : Int32) = nI 202 from rfl, nI_add]
      refine pk_le 1414 i (fun z => absurd z (by omega)) (fun _ => ⟨vp_in_nI (by omega) (by omega), vp_in_nI (by omega) (by omega), ?_⟩)
      rw [nI_clamp (by omega), nI_clamp (by omega), nI_1]
      refine hag _ ⟨_, rfl, fun j hj => ?_, fun j hj => ?_⟩
      · by_cases e : j = i
        · subst e; rw [pk_us, hf2 _ (by omega)]
        · rw [pk_un e, hf j (by omega)]
      · rw [pk_un (by omega), hf2 j (by omega)]
    · rintro st again ⟨f, rfl, hf, hf2⟩
      rw [wbX7_keep_11]
      refine pk_le 1414 1414 (fun _ => ?_) (fun z => absurd z (by omega))
      refine wp_keepM2 (h := 7) (by omega) (fun kept' h1 h2 => hk kept' ⟨fun i hi => h1 i hi, fun j hj i hi => ?_⟩)
      have hj' : j < 7 := hj
      rw [h2 _ (by omega), hf _ (by omega)]
      congr 1
      show 202 * j + i + 202 = 202 * (j + 1) + i
      omega
  · have e : min (h + 1) 8 = h + 1 := Nat.min_eq_left (by omega)
    unfold KP at hk
    rw [e] at hk
    refine wp_keepM2 (by omega) (fun kept' h1 h2 => hk kept' ⟨fun i hi => h1 i hi, fun j hj i hi => ?_⟩)
    rw [h2 _ (by omega), show h + 1 - (h + 1) = 0 by omega]; rfl
theorem up_s {α : Type} {f : Nat → α} {k : Nat} {v : α} : va_up f k v k = v := if_pos rfl
theorem up_n {α : Type} {f : Nat → α} {k j : Nat} {v : α} (h : j ≠ k) : va_up f k v j = f j := if_neg h
/-- both keep -/
theorem HI_keep {h p : Nat} (hh : h ≤ 8) (hp : p < 8) {hs : Nat → DS} {kept g kept' : Nat → Int32} {d : DS} (hj : ∀ j, j < h → RR (hs ((p + 8 - h + j) % 8)) (fun i => kept (202 * j + i))) (hd : RR d g) (hk : KP h kept g kept') :
    HI (nI (min (h + 1) 8), nI ((p + 1) % 8), va_up hs p d) (nI (min (h + 1) 8)) kept' := by
  refine ⟨min (h + 1) 8, (p + 1) % 8, by omega, by omega, rfl, rfl, rfl, fun j hj2 => ?_⟩
  obtain ⟨k1, k2⟩ := hk
  dsimp only
  by_cases e : j = min (h + 1) 8 - 1
  · have e2 : ((p + 1) % 8 + 8 - min (h + 1) 8 + j) % 8 = p := by omega
    rw [e2, up_s]
    refine RR_congr hd (fun i hi => ?_)
    rw [e]; exact k1 i hi
  · have e2 : ((p + 1) % 8 + 8 - min (h + 1) 8 + j) % 8 = (p + 8 - h + (j + (h + 1 - min (h + 1) 8))) % 8 := by omega
    have e3 : (p + 8 - h + (j + (h + 1 - min (h + 1) 8))) % 8 ≠ p := by omega
    rw [e2, up_n e3]
    refine RR_congr (hj (j + (h + 1 - min (h + 1) 8)) (by omega)) (fun i hi => ?_)
    exact k2 j (by omega) i hi
/-- the class's table is never less than 0 -/
theorem tbp_sym (n : Nat) (te pls cnt : Nat → Nat) (x i j : Nat) : tbp n te pls cnt x i j = tbp n te pls cnt x j i := by
  unfold tbp
  by_cases h : i < n ∧ j < n
  · rw [if_pos h, if_pos ⟨h.2, h.1⟩]
    exact sm_congr (fun y _ => by rw [Int.mul_assoc, Int.mul_assoc, Int.mul_comm (ch (te i) (pls y))])
  · rw [if_neg h, if_neg (fun z => h ⟨z.2, z.1⟩)]
theorem sm_nonneg : ∀ (n : Nat) (f : Nat → Int), (∀ i, i < n → 0 ≤ f i) → 0 ≤ sm n f
  | 0, _, _ => Int.le_refl _
  | n + 1, f, h => by rw [sm]; have := sm_nonneg n f (fun i hi => h i (by omega)); have := h n (by omega); omega
def xv (n : Nat) (te : Nat → Nat) (s : Nat) (v : Nat → Int) : Int := sm n (fun i => v i * ch (te i) s)
theorem qf_tbp (n : Nat) (te pls cnt : Nat → Nat) (x : Nat) (v w : Nat → Int) : qf n (tbp n te pls cnt x) v w = sm x (fun y => (cnt y : Int) * (xv n te (pls y) v * xv n te (pls y) w)) := by
  have e1 : qf n (tbp n te pls cnt x) v w = sm n (fun i => sm n (fun j => sm x (fun y => v i * ((cnt y : Int) * ch (te i) (pls y) * ch (te j) (pls y)) * w j))) := by
    refine sm_congr (fun i hi => ?_)
    unfold mv
    rw [← sm_mul]
    refine sm_congr (fun j hj => ?_)
    unfold tbp
    rw [if_pos ⟨hi, hj⟩, sm_mulr, sm_mul]
    exact (Int.mul_assoc _ _ _).symm
  rw [e1]
  rw [sm_congr (fun i _ => sm_swap n x (fun j y => v i * ((cnt y : Int) * ch (te i) (pls y) * ch (te j) (pls y)) * w j)), sm_swap]
  refine sm_congr (fun y _ => ?_)
  unfold xv
  rw [← sm_mulr, ← sm_mul]
  refine sm_congr (fun i _ => ?_)
  rw [← sm_mul, ← sm_mul]
  refine sm_congr (fun j _ => ?_)
  generalize ch (te i) (pls y) = a
  generalize ch (te j) (pls y) = b
  generalize (cnt y : Int) = c
  grind
theorem psd_tbp (n : Nat) (te pls cnt : Nat → Nat) (x : Nat) : psd n (tbp n te pls cnt x) := by
  refine ⟨tbp_sym n te pls cnt x, fun v => ?_⟩
  rw [qf_tbp]
  refine sm_nonneg _ _ (fun y _ => Int.mul_nonneg (Int.natCast_nonneg _) ?_)
  rcases Int.le_total 0 (xv n te (pls y) v) with h | h
  · exact Int.mul_nonneg h h
  · exact Int.mul_nonneg_of_nonpos_of_nonpos h h
theorem tbp_abs {n : Nat} {te pls cnt : Nat → Nat} {x B : Nat} (hB : sm x (fun y => (cnt y : Int)) ≤ B) (i j : Nat) : (tbp n te pls cnt x i j).natAbs ≤ B := by
  unfold tbp
  split
  · have key : ∀ m, (sm m (fun y => (cnt y : Int) * ch (te i) (pls y) * ch (te j) (pls y))).natAbs ≤ (sm m (fun y => (cnt y : Int))) := by
      intro m
      induction m with
      | zero => exact Int.le_refl _
      | succ m ih =>
        rw [sm, sm]
        have h1 : ((cnt m : Int) * ch (te i) (pls m) * ch (te j) (pls m)).natAbs = cnt m := by
          rw [Int.mul_assoc, Int.natAbs_mul, ch_mul_abs]; omega
        omega
    have := key x
    omega
  · exact Nat.zero_le _
