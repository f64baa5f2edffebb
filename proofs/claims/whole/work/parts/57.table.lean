/-! the reference's table -/
def tbp (n : Nat) (te pls cnt : Nat → Nat) (x i j : Nat) : Int := if i < n ∧ j < n then sm x (fun y => (cnt y : Int) * ch (te i) (pls y) * ch (te j) (pls y)) else 0
theorem tbp_succ {n : Nat} {te pls cnt : Nat → Nat} {x i j : Nat} (hi : i < n) (hj : j < n) : tbp n te pls cnt (x + 1) i j = tbp n te pls cnt x i j + (cnt x : Int) * ch (te i) (pls x) * ch (te j) (pls x) := by
  unfold tbp; rw [if_pos ⟨hi, hj⟩, if_pos ⟨hi, hj⟩, sm]
theorem tbp_out {n : Nat} {te pls cnt : Nat → Nat} {x i j : Nat} (h : ¬ (i < n ∧ j < n)) : tbp n te pls cnt x i j = 0 := by unfold tbp; rw [if_neg h]
theorem tbp_zero {n : Nat} {te pls cnt : Nat → Nat} {x : Nat} (hx : cnt x = 0) (i j : Nat) : tbp n te pls cnt (x + 1) i j = tbp n te pls cnt x i j := by
  by_cases h : i < n ∧ j < n
  · rw [tbp_succ h.1 h.2, hx]; simp
  · rw [tbp_out h, tbp_out h]
theorem ch_mul_abs (a b c d : Nat) : (ch a b * ch c d).natAbs = 1 := by
  rcases ch_1 a b with h | h <;> rcases ch_1 c d with h2 | h2 <;> rw [h, h2] <;> rfl
/-- one trial's (or one SETTING's) turn -/
theorem wp_turn {n : Nat} (hn : n ≤ 5) {te pls cnt : Nat → Nat} (hte : ∀ i, i < n → te i < 64) {x : Nat} (hp : pls x < 64) (hc : cnt x ≤ 60) {g : Nat → Int32} (hg1 : g 1 = nI n) (hg : ∀ i, i < n → g (2 + i) = nI (te i)) {x3 : Int32} {f : Nat → Int64} {again : (Int32 × (Nat → Int64)) → Prop}
    (hf : ∀ i j, i < 6 → j < 6 → f (6 * i + j) = lI (tbp n te pls cnt x i j)) (h : ∀ f', (∀ i j, i < 6 → j < 6 → f' (6 * i + j) = lI (tbp n te pls cnt (x + 1) i j)) → again (x3 + (1 : Int32), f')) : wjX7_tables_83 g x3 f again (nI (pls x)) (nI (cnt x)) := by
  unfold wjX7_tables_83
  refine pk_eq (cnt x) 0 (fun e => ?_) (fun e => ?_)
  · exact h f (fun i j hi hj => by rw [tbp_zero e]; exact hf i j hi hj)
  · refine wloop_n (fun i st => ∃ f, st = (nI i, f) ∧ ∀ a b, a < 6 → b < 6 → f (6 * a + b) = lI (if a < i then tbp n te pls cnt (x + 1) a b else tbp n te pls cnt x a b)) n ⟨f, rfl, fun a b ha hb => by rw [if_neg (Nat.not_lt_zero _)]; exact hf a b ha hb⟩ ?_ ?_
    · rintro i st again2 hi ⟨f, rfl, hf⟩ hag
      rw [wbX7_tables_96, hg1]
      refine pk_le n i (fun z => absurd z (by omega)) (fun _ => ?_)
      refine wloop_n (fun j st => ∃ f, st = (nI j, f) ∧ ∀ a b, a < 6 → b < 6 → f (6 * a + b) = lI (if a < i ∨ (a = i ∧ b < j) then tbp n te pls cnt (x + 1) a b else tbp n te pls cnt x a b)) n ⟨f, rfl, fun a b ha hb => ?_⟩ ?_ ?_
      · rw [hf a b ha hb]
        congr 1
        by_cases e1 : a < i
        · rw [if_pos e1, if_pos (Or.inl e1)]
        · rw [if_neg e1, if_neg (by omega)]
      · rintro j st again3 hj ⟨f, rfl, hf⟩ hag3
        rw [wbX7_tables_110, hg1]
        refine pk_le n j (fun z => absurd z (by omega)) (fun _ => ?_)
        have e2 : (2 : Int32) + nI i = nI (2 + i) := nI_add 2 i
        have e3 : (2 : Int32) + nI j = nI (2 + j) := nI_add 2 j
        rw [ix6, e2, e3]
        refine ⟨vp_in_nI (by omega) (by omega), vp_in_nI (by omega) (by omega), ?_⟩
        rw [nI_clamp (by omega), nI_clamp (by omega), nI_clamp (by omega), hg i hi, hg j hj]
        refine wp_markM (hte i hi) hp ⟨vp_in_nI (by omega) (by omega), wp_markM (hte j hj) hp ⟨vp_in_nI (by omega) (by omega), ?_⟩⟩
        rw [hf i j (by omega) (by omega), if_neg (by omega), nI_iI (cnt x), iI_mul, iI_mul, nI_1]
        have eb : ((cnt x : Int) * ch (te i) (pls x) * ch (te j) (pls x)).natAbs ≤ 60 := by
          rw [Int.mul_assoc, Int.natAbs_mul, ch_mul_abs]; simp; omega
        rw [iI_l (by omega) (by omega), lI_add, ← tbp_succ hi hj]
        refine hag3 _ ⟨_, rfl, fun a b ha hb => ?_⟩
        by_cases e : a = i ∧ b = j
        · obtain ⟨rfl, rfl⟩ := e
          rw [pk_uLs, if_pos (by omega)]
        · rw [pk_uLn (by omega), hf a b ha hb]
          congr 1
          by_cases e1 : a < i ∨ (a = i ∧ b < j)
          · rw [if_pos e1, if_pos (by omega)]
          · rw [if_neg e1, if_neg (by omega)]
      · rintro st again3 ⟨f, rfl, hf⟩
        rw [wbX7_tables_110, hg1]
        refine pk_le n n (fun _ => ?_) (fun z => absurd z (by omega))
        rw [nI_1]
        refine hag _ ⟨_, rfl, fun a b ha hb => ?_⟩
        rw [hf a b ha hb]
        congr 1
        by_cases e1 : a < i
        · rw [if_pos (Or.inl e1), if_pos (by omega)]
        · by_cases e2 : a = i
          · subst e2
            by_cases e3 : b < n
            · rw [if_pos (Or.inr ⟨rfl, e3⟩), if_pos (by omega)]
            · rw [if_neg (by omega), if_pos (by omega), tbp_out (by omega), tbp_out (by omega)]
          · rw [if_neg (by omega), if_neg (by omega)]
    · rintro st again2 ⟨f, rfl, hf⟩
      rw [wbX7_tables_96, hg1]
      refine pk_le n n (fun _ => ?_) (fun z => absurd z (by omega))
      refine h f (fun i j hi hj => ?_)
      rw [hf i j hi hj]
      congr 1
      by_cases e1 : i < n
      · rw [if_pos e1]
      · rw [if_neg e1, tbp_out (by omega), tbp_out (by omega)]
theorem wp_zero36 {g : Nat → Int32} {a1 : Int32} {k : (Nat → Int64) → Prop} {f : Nat → Int64} (h : ∀ f' : Nat → Int64, (∀ i, i < 36 → f' i = 0) → ((a1 = 0) → (wpX7_settings g (fun r => wjX7_tables_39 g a1 k f' r))) ∧ (¬ (a1 = 0) → (wjX7_tables_39 g a1 k f' (g 79)))) : wpX7_tables g f a1 k := by
  unfold wpX7_tables
  refine wloop_n (fun i st => ∃ f, st = (nI i, f) ∧ ∀ a, a < i → f a = 0) 36 ⟨f, rfl, fun a ha => absurd ha (Nat.not_lt_zero _)⟩ ?_ ?_
  · rintro i st again hi ⟨f, rfl, hf⟩ hag
    rw [wbX7_tables_2]
    refine pk_le 36 i (fun z => absurd z (by omega)) (fun _ => ⟨vp_in_nI (by omega) (by omega), ?_⟩)
    rw [nI_clamp (by omega), nI_1]
    refine hag _ ⟨_, rfl, fun a ha => ?_⟩
    by_cases e : a = i
    · subst e; rw [pk_uLs]
    · rw [pk_uLn e]; exact hf a (by omega)
  · rintro st again ⟨f, rfl, hf⟩
    rw [wbX7_tables_2]
    refine pk_le 36 36 (fun _ => ?_) (fun z => absurd z (by omega))
    exact h f hf
/-- the table of the plan -/
theorem wp_tabP {K n : Nat} (hK : K < 7) (hn : n ≤ 5) {te ti : Nat → Nat} (hte : ∀ i, i < n → te i < 64) (hti : ∀ s, s < 64 → ti s ≤ 60) {g : Nat → Int32} (hg0 : g 0 = nI K) (hg1 : g 1 = nI n) (hg : ∀ i, i < n → g (2 + i) = nI (te i)) (hgp : ∀ s, s < 64 → g (7 + s) = nI (ti s)) {table : Nat → Int64} {k : (Nat → Int64) → Prop}
    (h : ∀ f, (∀ i j, i < 6 → j < 6 → f (6 * i + j) = lI (tbp n te id ti (2 ^ K) i j)) → k f) : wpX7_tables g table 0 k := by
  have h2 := (shl_tab K hK).2
  refine wp_zero36 (fun f hf => ⟨fun _ => wp_settM hK hg0 ?_, fun z => absurd rfl z⟩)
  unfold wjX7_tables_39
  refine wloop_n (fun x st => ∃ f, st = (nI x, f) ∧ ∀ i j, i < 6 → j < 6 → f (6 * i + j) = lI (tbp n te id ti x i j)) (2 ^ K) ⟨f, rfl, fun i j hi hj => ?_⟩ ?_ ?_
  · rw [hf _ (by omega)]
    unfold tbp; split <;> rfl
  · rintro x st again hx ⟨f, rfl, hf⟩ hag
    rw [wbX7_tables_42]
    refine pk_le (2 ^ K) x (fun z => absurd z (by omega)) (fun _ => ⟨fun _ => ?_, fun z => absurd rfl z⟩)
    unfold wjX7_tables_64
    refine ⟨fun _ => ?_, fun z => absurd rfl z⟩
    have e : (7 : Int32) + nI x = nI (7 + x) := nI_add 7 x
    rw [e]
    refine ⟨vp_in_nI (by omega) (by omega), ?_⟩
    rw [nI_clamp (by omega), hgp x (by omega)]
    exact wp_turn (pls := id) (cnt := ti) (x := x) hn hte (show id x < 64 by show x < 64; omega) (hti x (by omega)) hg1 hg hf (fun f' hf' => by rw [nI_1]; exact hag _ ⟨f', rfl, hf'⟩)
  · rintro st again ⟨f, rfl, hf⟩
    rw [wbX7_tables_42]
    refine pk_le (2 ^ K) (2 ^ K) (fun _ => h f hf) (fun z => absurd z (by omega))
/-- the table of what was seen -/
theorem wp_tabS {n c : Nat} (hn : n ≤ 5) (hc : c ≤ 60) {te pl : Nat → Nat} (hte : ∀ i, i < n → te i < 64) (hpl : ∀ x, x < c → pl x < 64) {g : Nat → Int32} (hg1 : g 1 = nI n) (hg : ∀ i, i < n → g (2 + i) = nI (te i)) (hgc : g 79 = nI c) (hgp : ∀ x, x < c → g (80 + x) = nI (pl x)) {table : Nat → Int64} {k : (Nat → Int64) → Prop}
    (h : ∀ f, (∀ i j, i < 6 → j < 6 → f (6 * i + j) = lI (tbp n te pl (fun _ => 1) c i j)) → k f) : wpX7_tables g table 1 k := by
  refine wp_zero36 (fun f hf => ⟨fun z => absurd z (by decide), fun _ => ?_⟩)
  unfold wjX7_tables_39
  rw [hgc]
  refine wloop_n (fun x st => ∃ f, st = (nI x, f) ∧ ∀ i j, i < 6 → j < 6 → f (6 * i + j) = lI (tbp n te pl (fun _ => 1) x i j)) c ⟨f, rfl, fun i j hi hj => ?_⟩ ?_ ?_
  · rw [hf _ (by omega)]
    unfold tbp; split <;> rfl
  · rintro x st again hx ⟨f, rfl, hf⟩ hag
    rw [wbX7_tables_42]
    refine pk_le c x (fun z => absurd z (by omega)) (fun _ => ⟨fun z => absurd z (by decide), fun _ => ?_⟩)
    have e : (80 : Int32) + nI x = nI (80 + x) := nI_add 80 x
    rw [e]
    refine ⟨vp_in_nI (by omega) (by omega), ?_⟩
    rw [nI_clamp (by omega), hgp x hx]
    unfold wjX7_tables_64
    refine ⟨fun z => absurd z (by decide), fun _ => ?_⟩
    exact wp_turn (pls := pl) (cnt := fun _ => 1) (x := x) hn hte (hpl x hx) (by decide) hg1 hg hf (fun f' hf' => by rw [nI_1]; exact hag _ ⟨f', rfl, hf'⟩)
  · rintro st again ⟨f, rfl, hf⟩
    rw [wbX7_tables_42]
    refine pk_le c c (fun _ => h f hf) (fun z => absurd z (by omega))
