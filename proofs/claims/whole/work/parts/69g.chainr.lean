/-! the reference's CHAINS: by sets of trials -/
def cum (ti : Nat → Nat) : Nat → Nat
  | 0 => 0
  | s + 1 => cum ti s + ti s
theorem cum_tot (ti : Nat → Nat) : ∀ s, (cum ti s : Int) = tot ti s
  | 0 => rfl
  | s + 1 => by
    have e : tot ti (s + 1) = tot ti s + (ti s : Int) := rfl
    rw [cum, e, ← cum_tot ti s]; omega
theorem cum_mono (ti : Nat → Nat) {a b : Nat} (h : a ≤ b) : cum ti a ≤ cum ti b := by
  induction b with
  | zero => have : a = 0 := by omega
            subst this; exact Nat.le_refl _
  | succ b ih =>
    by_cases e : a = b + 1
    · subst e; exact Nat.le_refl _
    · have := ih (by omega)
      rw [cum]; omega
def lkf (ti : Nat → Nat) : Nat → Nat → Nat
  | 0, _ => 0
  | s + 1, b => if cum ti s ≤ b then s else lkf ti s b
theorem lkf_at {ti : Nat → Nat} : ∀ {n s b : Nat}, s < n → cum ti s ≤ b → b < cum ti (s + 1) → lkf ti n b = s
  | 0, _, _, h, _, _ => absurd h (Nat.not_lt_zero _)
  | n + 1, s, b, h, h1, h2 => by
    rw [lkf]
    by_cases e : s = n
    · subst e; rw [if_pos h1]
    · have := cum_mono ti (show s + 1 ≤ n by omega)
      rw [if_neg (by omega)]
      exact lkf_at (by omega) h1 h2
theorem lkf_ok {ti : Nat → Nat} : ∀ {n b : Nat}, b < cum ti n → lkf ti n b < n ∧ cum ti (lkf ti n b) ≤ b ∧ b < cum ti (lkf ti n b + 1)
  | 0, _, h => absurd h (Nat.not_lt_zero _)
  | n + 1, b, h => by
    rw [lkf]
    by_cases c : cum ti n ≤ b
    · rw [if_pos c]; exact ⟨by omega, c, h⟩
    · rw [if_neg c]
      obtain ⟨h1, h2, h3⟩ := lkf_ok (ti := ti) (n := n) (b := b) (by omega)
      exact ⟨by omega, h2, h3⟩
theorem lkf_mono {ti : Nat → Nat} {n a b : Nat} (hb : b < cum ti n) (ha : a < cum ti n) (h : lkf ti n a < lkf ti n b) : a < b := by
  obtain ⟨a1, a2, a3⟩ := lkf_ok ha
  obtain ⟨b1, b2, b3⟩ := lkf_ok hb
  have := cum_mono ti (show lkf ti n a + 1 ≤ lkf ti n b by omega)
  omega
def inb (set : Nat) (b : Nat) : Bool := !set.testBit b
/-- what is left of each SETTING beside a set of trials that are done -/
def rmf (ti : Nat → Nat) (M set : Nat) : Nat → Nat := fun s => mbn (fun b => inb set b && decide (lkf ti 64 b = s)) M
def cmf (M set : Nat) : Nat := mbn (inb set) M
def LV (ti : Nat → Nat) (M set a : Nat) : Nat := fcs (cmf M set) (rmf ti M set) (lkf ti 64 a)
theorem mbn_cong {p q : Nat → Bool} : ∀ {n : Nat}, (∀ k, k < n → p k = q k) → mbn p n = mbn q n
  | 0, _ => rfl
  | n + 1, h => by
    have ih := mbn_cong (n := n) (fun k hk => h k (by omega))
    have e := h n (by omega)
    cases hp : p n with
    | true => rw [mbn_t hp, mbn_t (by rw [← e]; exact hp), ih]
    | false => rw [mbn_f hp, mbn_f (by rw [← e]; exact hp), ih]
theorem mbn_one {p q : Nat → Bool} {b : Nat} (h1 : p b = true) (h2 : q b = false) (h : ∀ k, k ≠ b → p k = q k) : ∀ {n : Nat}, b < n → mbn p n = mbn q n + 1
  | 0, hb => absurd hb (Nat.not_lt_zero _)
  | n + 1, hb => by
    by_cases e : b = n
    · subst e
      rw [mbn_t h1, mbn_f h2, mbn_cong (fun k hk => h k (by omega))]
    · have ih := mbn_one h1 h2 h (n := n) (by omega)
      have en := h n (fun z => e z.symm)
      cases hp : p n with
      | true => rw [mbn_t hp, mbn_t (by rw [← en]; exact hp), ih]
      | false => rw [mbn_f hp, mbn_f (by rw [← en]; exact hp), ih]
theorem mbn_zero {p : Nat → Bool} {n : Nat} (h : ∀ k, k < n → p k = false) : mbn p n = 0 := by
  induction n with
  | zero => rfl
  | succ n ih => rw [mbn_f (h n (by omega))]; exact ih (fun k hk => h k (by omega))
theorem mbn_ex {p : Nat → Bool} : ∀ {n : Nat}, 0 < mbn p n → ∃ k, k < n ∧ p k = true
  | 0, h => absurd h (Nat.lt_irrefl 0)
  | n + 1, h => by
    cases hp : p n with
    | true => exact ⟨n, by omega, hp⟩
    | false =>
      rw [mbn_f hp] at h
      obtain ⟨k, h1, h2⟩ := mbn_ex h
      exact ⟨k, by omega, h2⟩
theorem mbn_pos {p : Nat → Bool} {n k : Nat} (hk : k < n) (h : p k = true) : 0 < mbn p n := by
  rcases Nat.eq_zero_or_pos (mbn p n) with e | e
  · exfalso
    have h1 := mbn_sm p n
    rw [e] at h1
    have h2 := sm_ge (n := n) (f := fun s => ib (p s)) (fun i _ => by unfold ib; split <;> decide) hk
    have h3 : ib (p k) = 1 := by rw [h]; rfl
    omega
  · exact e
theorem inb_or {set b k : Nat} : inb (set ||| 2 ^ b) k = (inb set k && !decide (b = k)) := by
  unfold inb; rw [Nat.testBit_or, Nat.testBit_two_pow]; cases set.testBit k <;> rfl
theorem rmf_dcr {ti : Nat → Nat} {M set b : Nat} (hb : b < M) (h : inb set b = true) : rmf ti M (set ||| 2 ^ b) = dcr (rmf ti M set) (lkf ti 64 b) := by
  funext s
  unfold dcr
  by_cases e : s = lkf ti 64 b
  · rw [if_pos e]
    unfold rmf
    rw [mbn_one (p := fun k => inb set k && decide (lkf ti 64 k = s)) (q := fun k => inb (set ||| 2 ^ b) k && decide (lkf ti 64 k = s)) (b := b) (by rw [h, e]; simp) (by rw [inb_or]; simp) (fun k hk => by rw [inb_or, show decide (b = k) = false from decide_eq_false (fun z => hk z.symm)]; simp) hb]
    omega
  · rw [if_neg e]
    unfold rmf
    refine mbn_cong (fun k hk => ?_)
    rw [inb_or]
    by_cases c : b = k
    · subst c
      rw [show decide (lkf ti 64 b = s) = false from decide_eq_false (fun z => e z.symm)]; simp
    · rw [show decide (b = k) = false from decide_eq_false c]; simp
theorem cmf_dcr {M set b : Nat} (hb : b < M) (h : inb set b = true) : cmf M set = cmf M (set ||| 2 ^ b) + 1 := by
  unfold cmf
  exact mbn_one h (by rw [inb_or]; simp) (fun k hk => by rw [inb_or, show decide (b = k) = false from decide_eq_false (fun z => hk z.symm)]; simp) hb
theorem ib_and (a b : Bool) : ib (a && b) = ib a * ib b := by cases a <;> cases b <;> rfl
theorem tot_rmf {ti : Nat → Nat} {M : Nat} (hM : M = cum ti 64) (set : Nat) : tot (rmf ti M set) 64 = (cmf M set : Int) := by
  unfold tot cmf
  rw [mbn_sm, sm_congr (f := fun s => (rmf ti M set s : Int)) (g := fun s => sm M (fun b => ib (inb set b && decide (lkf ti 64 b = s)))) (fun s _ => mbn_sm _ M), sm_swap]
  refine sm_congr (fun b hb => ?_)
  rw [sm_single (k := lkf ti 64 b) (lkf_ok (by omega)).1 (fun s _ hne => by rw [ib_and, show decide (lkf ti 64 b = s) = false from decide_eq_false (fun z => hne z.symm)]; exact Int.mul_zero _), ib_and, show decide (lkf ti 64 b = lkf ti 64 b) = true from decide_eq_true rfl]
  exact Int.mul_one _
theorem rmf_0 {ti : Nat → Nat} {M : Nat} (hM : M = cum ti 64) (hz : ∀ s, 64 ≤ s → ti s = 0) : rmf ti M 0 = ti := by
  funext s
  have key : ∀ n, n ≤ 64 → mbn (fun b => inb 0 b && decide (lkf ti 64 b = s)) (cum ti n) = if s < n then ti s else 0 := by
    intro n
    induction n with
    | zero => intro _; rw [if_neg (Nat.not_lt_zero _)]; rfl
    | succ n ih =>
      intro hn
      have blk : ∀ j, j ≤ ti n → mbn (fun b => inb 0 b && decide (lkf ti 64 b = s)) (cum ti n + j) = mbn (fun b => inb 0 b && decide (lkf ti 64 b = s)) (cum ti n) + (if s = n then j else 0) := by
        intro j
        induction j with
        | zero => intro _; split <;> rfl
        | succ j ihj =>
          intro hj
          have hl : lkf ti 64 (cum ti n + j) = n := lkf_at (by omega) (by omega) (by rw [cum]; omega)
          rw [show cum ti n + (j + 1) = (cum ti n + j) + 1 by omega]
          by_cases e : s = n
          · rw [mbn_t (by rw [hl, e]; unfold inb; simp), ihj (by omega), if_pos e, if_pos e]; omega
          · rw [mbn_f (by rw [hl, show decide (n = s) = false from decide_eq_false (fun z => e z.symm)]; simp), ihj (by omega), if_neg e, if_neg e]
      rw [cum, blk (ti n) (Nat.le_refl _), ih (by omega)]
      by_cases e : s = n
      · subst e; rw [if_pos rfl, if_neg (Nat.lt_irrefl s), if_pos (by omega)]; omega
      · rw [if_neg e]
        by_cases c : s < n
        · rw [if_pos c, if_pos (by omega)]; rfl
        · rw [if_neg c, if_neg (by omega)]
  have := key 64 (Nat.le_refl _)
  unfold rmf
  rw [hM, this]
  by_cases c : s < 64
  · rw [if_pos c]
  · rw [if_neg c, hz s (by omega)]
theorem rmf_op {ti : Nat → Nat} {M set s : Nat} (h : 0 < rmf ti M set s) : ∃ b, b < M ∧ inb set b = true ∧ lkf ti 64 b = s := by
  obtain ⟨b, h1, h2⟩ := mbn_ex h
  rw [Bool.and_eq_true] at h2
  exact ⟨b, h1, h2.1, of_decide_eq_true h2.2⟩
theorem rmf_b {ti : Nat → Nat} {M set b : Nat} (hb : b < M) (h : inb set b = true) : 0 < rmf ti M set (lkf ti 64 b) := mbn_pos hb (by rw [h]; simp)
theorem rmf_hi {ti : Nat → Nat} {M set s : Nat} (hM : M = cum ti 64) (h : 64 ≤ s) : rmf ti M set s = 0 := mbn_zero (fun b hb => by
  have := (lkf_ok (ti := ti) (n := 64) (b := b) (by omega)).1
  rw [show decide (lkf ti 64 b = s) = false from decide_eq_false (by omega)]; simp)
theorem LV_dcr {ti : Nat → Nat} {M set b m : Nat} (hb : b < M) (h : inb set b = true) (hm : cmf M set = m + 1) : LV ti M (set ||| 2 ^ b) b = fcs m (dcr (rmf ti M set) (lkf ti 64 b)) (lkf ti 64 b) := by
  unfold LV
  rw [rmf_dcr hb h]
  have := cmf_dcr hb h
  rw [show cmf M (set ||| 2 ^ b) = m by omega]
/-- one step over the trials -/
theorem step_trials {ti : Nat → Nat} {M set m : Nat} (hM : M = cum ti 64) (hm12 : m < 13) (hm : cmf M set = m + 1) {gp : Nat → Nat} (hg : ∀ s, gp s ≤ 6 ∨ 64 ≤ s) :
    (∀ b, b < M → inb set b = true → gp (lkf ti 64 b) + LV ti M (set ||| 2 ^ b) b < 10000) ∧ (∃ b, b < M ∧ inb set b = true) ∧
    cbs (m + 1) (rmf ti M set) gp = mnl (inb set) (fun b => gp (lkf ti 64 b) + LV ti M (set ||| 2 ^ b) b) M ∧
    aml (opn (rmf ti M set)) (fun s => gp s + fcs m (dcr (rmf ti M set) s) s) 64 = lkf ti 64 (aml (inb set) (fun b => gp (lkf ti 64 b) + LV ti M (set ||| 2 ^ b) b) M) := by
  have ht : tot (rmf ti M set) 64 = ((m + 1 : Nat) : Int) := by rw [tot_rmf hM, hm]
  have hlt := stp_lt hm12 ht (fun s hs => rmf_hi hM hs) hg
  have hc : ∀ b, b < M → inb set b = true → gp (lkf ti 64 b) + LV ti M (set ||| 2 ^ b) b = gp (lkf ti 64 b) + fcs m (dcr (rmf ti M set) (lkf ti 64 b)) (lkf ti 64 b) := fun b hb h => by rw [LV_dcr hb h hm]
  have hf : ∀ b, b < M → inb set b = true → gp (lkf ti 64 b) + LV ti M (set ||| 2 ^ b) b < 10000 := fun b hb h => by rw [hc b hb h]; exact hlt _ (opn_t (rmf_b hb h))
  have hex : ∃ b, b < M ∧ inb set b = true := mbn_ex (by unfold cmf at hm; omega)
  have e := mnl_eq (p := inb set) (q := opn (rmf ti M set)) (f := fun b => gp (lkf ti 64 b) + LV ti M (set ||| 2 ^ b) b) (g := fun s => gp s + fcs m (dcr (rmf ti M set) s) s) (n := M) (m := 64) hf (fun s _ ho => hlt s ho) (fun b hb h => ⟨lkf ti 64 b, (lkf_ok (by omega)).1, opn_t (rmf_b hb h), (hc b hb h).symm⟩) (fun s _ ho => by
    obtain ⟨b, b1, b2, b3⟩ := rmf_op (opn_0 ho)
    exact ⟨b, b1, b2, by show gp (lkf ti 64 b) + LV ti M (set ||| 2 ^ b) b = _; rw [hc b b1 b2, b3]⟩) hex
  obtain ⟨a1, a2, a3, a4⟩ := aml_ok hf hex
  refine ⟨hf, hex, by rw [cbs, ← e], ?_⟩
  refine aml_uniq (fun s _ ho => hlt s ho) (lkf_ok (by omega)).1 (opn_t (rmf_b a1 a2)) (by rw [← e, ← a3]; exact (hc _ a1 a2).symm) (fun s hs ho => ?_)
  obtain ⟨b, b1, b2, b3⟩ := rmf_op (opn_0 ho)
  have hlt2 : b < aml (inb set) (fun b => gp (lkf ti 64 b) + LV ti M (set ||| 2 ^ b) b) M := lkf_mono (ti := ti) (n := 64) (by omega) (by omega) (by rw [b3]; exact hs)
  have := a4 b hlt2 b2
  rw [hc b b1 b2, b3, e] at this
  exact this
theorem LV_le {ti : Nat → Nat} {M set a : Nat} (hM : M = cum ti 64) (hM12 : M ≤ 12) (ha : a < M) : LV ti M set a ≤ 72 := by
  have h1 : cmf M set ≤ M := mbn_le _ _
  have h2 := fcs_le (cmf M set) (rmf ti M set) (lkf ti 64 a) (tot_rmf hM set) (lkf_ok (by omega)).1
  unfold LV; omega
/-! bits -/
theorem sh12 : ∀ b, b < 13 → (1 : Int32) <<< (nI b &&& 31) = nI (2 ^ b) ∧ ((nI b &&& 31).toBitVec.smod 32).toNat = b ∧ 2 ^ b ≤ 4096 := by decide +kernel
theorem nI_or (a b : Nat) : nI a ||| nI b = nI (a ||| b) := Int32.toBitVec_inj.1 (by rw [Int32.toBitVec_or]; exact BitVec.ofNat_or.symm)
theorem bit_in {set b : Nat} (hs : set < 4096) (hb : b < 12) : ((nI set >>> (nI b &&& 31)) &&& (1 : Int32) = 1) ↔ inb set b = false := by
  rw [pk_shrN (by omega) _ b (sh12 b (by omega)).2.1]
  have hq : set / 2 ^ b ≤ set := Nat.div_le_self _ _
  rw [show nI (set / 2 ^ b) &&& (1 : Int32) = nI (set / 2 ^ b % 2) from pk_andN (by omega) 1 rfl]
  unfold inb
  rw [Nat.testBit_eq_decide_div_mod_eq]
  have h2 := Nat.mod_lt (set / 2 ^ b) (show 0 < 2 by omega)
  rw [show (1 : Int32) = nI 1 from rfl, nI_eq (by omega) (by omega)]
  by_cases c : set / 2 ^ b % 2 = 1
  · simp [c]
  · simp [c]
theorem or_M {M set b : Nat} (hs : set < 2 ^ M) (hb : b < M) : set ||| 2 ^ b < 2 ^ M := Nat.or_lt_two_pow hs (Nat.pow_lt_pow_right (by omega) hb)
theorem or_gt {set b : Nat} (h : inb set b = true) : set < set ||| 2 ^ b := by
  have h1 : set ≤ set ||| 2 ^ b := Nat.left_le_or
  rcases Nat.lt_or_ge set (set ||| 2 ^ b) with h2 | h2
  · exact h2
  · exfalso
    have e : set = set ||| 2 ^ b := by omega
    have h3 : inb (set ||| 2 ^ b) b = false := by rw [inb_or]; simp
    rw [← e, h] at h3
    exact absurd h3 (by decide)
theorem wp_changes {ti : Nat → Nat} {M : Nat} (hM : M = cum ti 64) (hM12 : M ≤ 12) {link : Nat → Int32} (hl : ∀ b, b < M → link b = nI (lkf ti 64 b)) {a b : Nat} (ha : a < M) (hb : b < M) {k : Int32 → Prop} (h : k (nI (pc (lkf ti 64 a ^^^ lkf ti 64 b)))) : wpX7_changes link (nI a) (nI b) k := by
  unfold wpX7_changes
  have h1 := (lkf_ok (ti := ti) (n := 64) (b := a) (by omega)).1
  have h2 := (lkf_ok (ti := ti) (n := 64) (b := b) (by omega)).1
  rw [nI_clamp (by omega), nI_clamp (by omega), hl a ha, hl b hb, xor_tab _ h1 _ h2]
  exact ⟨vp_in_nI (by omega) (by omega), vp_in_nI (by omega) (by omega), wp_ones (xor64 h1 h2) h⟩
