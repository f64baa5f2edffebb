/-! the class's table: signs, shifts, fill -/
def tri (i : Nat) : Nat := i * (i + 1) / 2
theorem st_ix : ∀ i, i < 5 → ∀ j, j < 5 → stI ((nI i).toNatClampNeg) + nI j = nI (tri i + j) ∧ (j ≤ i → tri i + j < 15) := by decide +kernel
theorem tri_tab : ∀ i, i < 5 → ∀ a, a < 5 → i < a → tri i + i < tri a := by decide +kernel
theorem tri_ne {i j a b : Nat} (hi : i < 5) (hj : j ≤ i) (ha : a < 5) (hb : b ≤ a) (h : ¬ (a = i ∧ b = j)) : tri a + b ≠ tri i + j := fun e => by
  rcases Nat.lt_trichotomy i a with h1 | h1 | h1
  · have := tri_tab i hi a ha h1; omega
  · subst h1; omega
  · have := tri_tab a ha i hi h1; omega
def sgs (te : Nat → Nat) (s : Nat) : Nat → Nat
  | 0 => 0
  | n + 1 => sgs te s n + 2 ^ n * (pc (te n &&& (s ^^^ 63)) % 2)
theorem sgs_lt (te : Nat → Nat) (s : Nat) : ∀ n, sgs te s n < 2 ^ n
  | 0 => by show 0 < 1; decide
  | n + 1 => by
    have h := sgs_lt te s n
    rw [sgs, Nat.pow_succ]
    have h2 : pc (te n &&& (s ^^^ 63)) % 2 ≤ 1 := by omega
    have h3 : 2 ^ n * (pc (te n &&& (s ^^^ 63)) % 2) ≤ 2 ^ n * 1 := Nat.mul_le_mul_left _ h2
    omega
theorem sgs_bit (te : Nat → Nat) (s : Nat) : ∀ n i, i < n → sgs te s n / 2 ^ i % 2 = pc (te i &&& (s ^^^ 63)) % 2
  | 0, i, h => absurd h (Nat.not_lt_zero _)
  | n + 1, i, h => by
    rw [sgs]
    have hl := sgs_lt te s n
    by_cases e : i = n
    · subst e
      rw [Nat.add_mul_div_left _ _ (Nat.two_pow_pos _), Nat.div_eq_of_lt hl]; omega
    · have e2 : 2 ^ n = 2 ^ i * (2 * 2 ^ (n - i - 1)) := by
        rw [← Nat.pow_succ', ← Nat.pow_add]; congr 1; omega
      rw [e2, Nat.mul_assoc, Nat.add_mul_div_left _ _ (Nat.two_pow_pos _), Nat.mul_assoc, Nat.add_mul_mod_self_left]
      exact sgs_bit te s n i (by omega)
theorem sgs_ch {te : Nat → Nat} {s n i : Nat} (h : i < n) : sg (sgs te s n / 2 ^ i % 2) = ch (te i) s := by
  rw [sgs_bit te s n i h]
  unfold ch sg
  rw [Nat.mod_mod]
theorem tb_or : ∀ i, i < 5 → ∀ m, m < 32 → m < 2 ^ i → ∀ c, c < 7 → nI m ||| ((nI c &&& (1 : Int32)) <<< (nI i &&& 31)) = nI (m + 2 ^ i * (c % 2)) := by decide +kernel
theorem p5 : ∀ n, n < 6 → 2 ^ n ≤ 32 := by decide
theorem wp_signs {n : Nat} (hn : n ≤ 5) {te : Nat → Nat} (hte : ∀ i, i < n → te i < 64) {s : Nat} (hs : s < 64) {tc : Int32} (htc : tc = nI n) {terms : Nat → Int32} (ht : ∀ i, i < n → terms i = nI (te i)) {k : Int32 → Prop} (h : k (nI (sgs te s n))) : wpX1_signsAt tc terms (nI s) k := by
  unfold wpX1_signsAt
  subst htc
  refine wloop_n (fun i st => st = (nI (sgs te s i), nI i)) n rfl ?_ ?_
  · rintro i st again hi rfl hag
    rw [wbX1_signsAt_4]
    refine pk_le n i (fun z => absurd z (by omega)) (fun _ => ⟨vp_in_nI (by omega) (by omega), ?_⟩)
    obtain ⟨h1, h2⟩ := and63 (te i) (hte i hi) s hs
    have h3 := sgs_lt te s i
    have h4 := p5 i (by omega)
    rw [nI_clamp (by omega), ht i hi, h1, vbc_pc _ h2, tb_or i (by omega) _ (by omega) h3 _ (Nat.lt_succ_of_le (pc_le _ h2)), nI_1]
    exact hag _ rfl
  · rintro st again rfl
    rw [wbX1_signsAt_4]
    exact pk_le n n (fun _ => h) (fun z => absurd z (by omega))
theorem tb_xor : ∀ m, m < 32 → ∀ i, i < 5 → ∀ j, j < 5 → ((((nI m >>> (nI i &&& 31)) ^^^ (nI m >>> (nI j &&& 31))) &&& (1 : Int32)) = 0 ↔ sg (m / 2 ^ i % 2) * sg (m / 2 ^ j % 2) = 1) := by decide +kernel
theorem sg_mul_m {a b : Nat} (h : ¬ sg a * sg b = 1) : sg a * sg b = -1 := by
  rw [← sg_add] at h ⊢
  unfold sg at h ⊢
  split
  · rename_i q; rw [if_pos q] at h; exact absurd rfl h
  · rfl
/-- the cells of a table -/
def GC (n : Nat) (cells : Nat → Int64) (F : Nat → Nat → Int) : Prop := ∀ i j, i < n → j ≤ i → cells (tri i + j) = lI (F i j)
theorem GC_set {n : Nat} {cells : Nat → Int64} {F G : Nat → Nat → Int} (hn : n ≤ 5) {i j : Nat} (hi : i < n) (hj : j ≤ i) (h : GC n cells F) {v : Int64} (hv : v = lI (G i j)) (hG : ∀ a b, a < n → b ≤ a → ¬ (a = i ∧ b = j) → G a b = F a b) : GC n (vp_updL cells (tri i + j) v) G := by
  intro a b ha hb
  by_cases e : a = i ∧ b = j
  · obtain ⟨rfl, rfl⟩ := e
    rw [pk_uLs, hv]
  · rw [pk_uLn (tri_ne (by omega) hj (by omega) hb e), h a b ha hb, hG a b ha hb e]
theorem GC_congr {n : Nat} {cells : Nat → Int64} {F G : Nat → Nat → Int} (h : GC n cells F) (hG : ∀ a b, a < n → b ≤ a → G a b = F a b) : GC n cells G := fun a b ha hb => by rw [h a b ha hb, hG a b ha hb]
theorem wp_shift {n : Nat} (hn : n ≤ 5) {m : Nat} (hm : m < 32) {d : Int} (hd : d.natAbs ≤ 60) {cells : Nat → Int64} {size : Int32} (hsz : size = nI n) {F : Nat → Nat → Int} (hF : GC n cells F) {k : (Nat → Int64) → Prop}
    (h : ∀ cells', GC n cells' (fun i j => F i j + d * sg (m / 2 ^ i % 2) * sg (m / 2 ^ j % 2)) → k cells') : wpX2_shift cells size (nI m) (iI d) k := by
  unfold wpX2_shift
  subst hsz
  refine wloop_n (fun i st => ∃ f, st = (nI i, f) ∧ GC n f (fun a b => if a < i then F a b + d * sg (m / 2 ^ a % 2) * sg (m / 2 ^ b % 2) else F a b)) n ⟨cells, rfl, GC_congr hF (fun a b _ _ => if_neg (Nat.not_lt_zero _))⟩ ?_ ?_
  · rintro i st again hi ⟨f, rfl, hf⟩ hag
    rw [wbX2_shift_2]
    refine pk_le n i (fun z => absurd z (by omega)) (fun _ => ⟨vp_in_nI (by omega) (by omega), ?_⟩)
    refine wloop_n (fun j st => ∃ f, st = (nI j, f) ∧ GC n f (fun a b => if a < i ∨ (a = i ∧ b < j) then F a b + d * sg (m / 2 ^ a % 2) * sg (m / 2 ^ b % 2) else F a b)) (i + 1) ⟨f, rfl, GC_congr hf (fun a b _ _ => ?_)⟩ ?_ ?_
    · by_cases e1 : a < i
      · rw [if_pos (Or.inl e1), if_pos e1]
      · rw [if_neg (by omega), if_neg e1]
    · rintro j st again2 hj ⟨f, rfl, hf⟩ hag2
      rw [wbX2_shift_25]
      refine pk_lt i j (fun z => absurd z (by omega)) (fun _ => ?_)
      obtain ⟨x1, x2⟩ := st_ix i (by omega) j (by omega)
      have x3 := x2 (by omega)
      rw [x1, nI_clamp (by omega), tb_xor m hm i (by omega) j (by omega), hf i j hi (by omega)]
      dsimp only
      rw [if_neg (by omega), nI_1, iI_neg, iI_l (by omega) (by omega), iI_l (by omega) (by omega), lI_add, lI_add]
      have fin : ∀ v, v = F i j + d * sg (m / 2 ^ i % 2) * sg (m / 2 ^ j % 2) → again2 (nI (j + 1), vp_updL f (tri i + j) (lI v)) := fun v hv => by
        refine hag2 _ ⟨_, rfl, GC_set hn hi (by omega) hf ?_ (fun a b ha hb hne => ?_)⟩
        · rw [if_pos (by omega), hv]
        · by_cases e1 : a < i ∨ (a = i ∧ b < j)
          · rw [if_pos (by omega), if_pos e1]
          · rw [if_neg (by omega), if_neg e1]
      refine ⟨vp_in_nI x3 (by omega), fun z => ⟨vp_in_nI x3 (by omega), fin _ ?_⟩, fun z => ⟨vp_in_nI x3 (by omega), fin _ ?_⟩⟩
      · rw [Int.mul_assoc, z, Int.mul_one]
      · rw [Int.mul_assoc, sg_mul_m z]; omega
    · rintro st again2 ⟨f, rfl, hf⟩
      rw [wbX2_shift_25]
      refine pk_lt i (i + 1) (fun _ => ?_) (fun z => absurd z (by omega))
      rw [nI_1]
      refine hag _ ⟨_, rfl, GC_congr hf (fun a b ha hb => ?_)⟩
      by_cases e1 : a < i + 1
      · rw [if_pos e1, if_pos (by omega)]
      · rw [if_neg e1, if_neg (by omega)]
  · rintro st again ⟨f, rfl, hf⟩
    rw [wbX2_shift_2]
    refine pk_le n n (fun _ => h f (GC_congr hf (fun a b ha hb => ?_))) (fun z => absurd z (by omega))
    rw [if_pos ha]
theorem wp_fill {K n : Nat} (hK : K < 7) (hn : n ≤ 5) {te ti : Nat → Nat} (hte : ∀ i, i < n → te i < 64) (hti : ∀ s, s < 64 → ti s ≤ 60) {cells : Nat → Int64} {size fc tc : Int32} {terms p2 : Nat → Int32} (hfc : fc = nI K) (htc : tc = nI n) (ht : ∀ i, i < n → terms i = nI (te i)) (hp : ∀ s, s < 64 → p2 s = nI (ti s)) {k : (Nat → Int64) → Int32 → Prop}
    (h : ∀ f, GC n f (fun i j => tbp n te id ti (2 ^ K) i j) → k f (nI n)) : wpX2_fill cells size fc tc terms p2 k := by
  have h2 := (shl_tab K hK).2
  unfold wpX2_fill wpX2_empty
  refine wp_settX hK hfc ?_
  rw [htc]
  refine wloop_n (fun x st => ∃ f, st = (nI x, f) ∧ GC n f (fun i j => tbp n te id ti x i j)) (2 ^ K) ⟨_, rfl, fun i j hi hj => ?_⟩ ?_ ?_
  · show (0 : Int64) = lI (tbp n te id ti 0 i j)
    unfold tbp; split <;> rfl
  · rintro x st again hx ⟨f, rfl, hf⟩ hag
    rw [wbX2_fill_16]
    refine pk_le (2 ^ K) x (fun z => absurd z (by omega)) (fun _ => ⟨vp_in_nI (by omega) (by omega), ?_⟩)
    rw [nI_clamp (by omega), hp x (by omega), nI_1]
    refine pk_le (ti x) 0 (fun z => ?_) (fun z => ?_) (ha := by have := hti x (by omega); omega)
    · exact hag _ ⟨f, rfl, GC_congr hf (fun a b _ _ => tbp_zero (x := x) (cnt := ti) (by omega) a b)⟩
    · refine wp_signs hn hte (show x < 64 by omega) rfl ht ⟨vp_in_nI (by omega) (by omega), ?_⟩
      rw [nI_iI (ti x)]
      have := hti x (by omega)
      refine wp_shift hn (Nat.lt_of_lt_of_le (sgs_lt te x n) (p5 n (by omega))) (by omega) rfl hf (fun f' hf' => hag _ ⟨f', rfl, GC_congr hf' (fun a b ha hb => ?_)⟩)
      rw [tbp_succ ha (by omega), sgs_ch ha, sgs_ch (show b < n by omega)]
      rfl
  · rintro st again ⟨f, rfl, hf⟩
    rw [wbX2_fill_16]
    exact pk_le (2 ^ K) (2 ^ K) (fun _ => h f hf) (fun z => absurd z (by omega))
