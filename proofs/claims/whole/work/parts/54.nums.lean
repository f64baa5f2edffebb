/-! casts, marks -/
def lI (z : Int) : Int64 := Int64.ofInt z
def iI (z : Int) : Int32 := Int32.ofInt z
theorem lI_add (a b : Int) : lI a + lI b = lI (a + b) := (Int64.ofInt_add a b).symm
theorem lI_sub (a b : Int) : lI a - lI b = lI (a - b) := (Int64.ofInt_sub a b).symm
theorem lI_mul (a b : Int) : lI a * lI b = lI (a * b) := (Int64.ofInt_mul a b).symm
theorem lI_neg (a : Int) : - lI a = lI (-a) := (Int64.ofInt_neg a).symm
theorem lI_0 : lI 0 = 0 := rfl
theorem lI_1 : lI 1 = 1 := rfl
theorem iI_add (a b : Int) : iI a + iI b = iI (a + b) := (Int32.ofInt_add a b).symm
theorem iI_sub (a b : Int) : iI a - iI b = iI (a - b) := (Int32.ofInt_sub a b).symm
theorem iI_mul (a b : Int) : iI a * iI b = iI (a * b) := (Int32.ofInt_mul a b).symm
theorem iI_neg (a : Int) : - iI a = iI (-a) := (Int32.ofInt_neg a).symm
theorem nI_iI (n : Nat) : nI n = iI n := (Int32.ofInt_eq_ofNat).symm
theorem lI_T {z : Int} (h1 : -9223372036854775808 ≤ z) (h2 : z < 9223372036854775808) : (lI z).toInt = z := Int64.toInt_ofInt_of_le h1 h2
theorem iI_T {z : Int} (h1 : -2147483648 ≤ z) (h2 : z < 2147483648) : (iI z).toInt = z := Int32.toInt_ofInt_of_le h1 h2
theorem iI_l {z : Int} (h1 : -2147483648 ≤ z) (h2 : z < 2147483648) : (iI z).toInt64 = lI z := by
  apply Int64.toInt_inj.mp
  rw [Int32.toInt_toInt64, iI_T h1 h2, lI_T (by omega) (by omega)]
theorem lI_inj {a b : Int} (ha : a.natAbs < 9223372036854775808) (hb : b.natAbs < 9223372036854775808) : lI a = lI b ↔ a = b := by
  refine ⟨fun h => ?_, fun h => by rw [h]⟩
  have h1 := congrArg Int64.toInt h
  rwa [lI_T (by omega) (by omega), lI_T (by omega) (by omega)] at h1
theorem lI_lt {a b : Int} (ha : a.natAbs < 9223372036854775808) (hb : b.natAbs < 9223372036854775808) : lI a < lI b ↔ a < b := by
  rw [Int64.lt_iff_toInt_lt, lI_T (by omega) (by omega), lI_T (by omega) (by omega)]
theorem lI_le {a b : Int} (ha : a.natAbs < 9223372036854775808) (hb : b.natAbs < 9223372036854775808) : lI a ≤ lI b ↔ a ≤ b := by
  rw [Int64.le_iff_toInt_le, lI_T (by omega) (by omega), lI_T (by omega) (by omega)]
/-- a division that comes out even -/
theorem lI_div {a b c : Int} (h : c = a * b) (hb : b ≠ 0) (hb2 : b.natAbs < 9223372036854775808) (hc : c.natAbs < 9223372036854775808) (ha : a.natAbs < 9223372036854775808) : lI c / lI b = lI a := by
  apply Int64.toInt_inj.mp
  have hbT : (lI b).toInt = b := lI_T (by omega) (by omega)
  have hcT : (lI c).toInt = c := lI_T (by omega) (by omega)
  have hne : lI c ≠ Int64.minValue := fun e => by
    have h1 := congrArg Int64.toInt e
    rw [hcT] at h1
    have h2 : Int64.minValue.toInt = -9223372036854775808 := rfl
    rw [h2] at h1
    omega
  rw [Int64.toInt_div_of_ne_left _ _ hne, hbT, hcT, lI_T (by omega) (by omega), h, Int.mul_tdiv_cancel _ hb]
/-- how many of the six lowest signs of a number are 1 -/
def pc (n : Nat) : Nat := n % 2 + n / 2 % 2 + n / 4 % 2 + n / 8 % 2 + n / 16 % 2 + n / 32 % 2
/-- what a TERM is at a SETTING -/
def ch (t s : Nat) : Int := sg (pc (t &&& (s ^^^ 63)))
theorem ch_1 (t s : Nat) : ch t s = 1 ∨ ch t s = -1 := by unfold ch sg; split <;> simp
theorem ch_sq (t s : Nat) : ch t s * ch t s = 1 := by rcases ch_1 t s with h | h <;> rw [h] <;> rfl
theorem and63 : ∀ t, t < 64 → ∀ s, s < 64 → nI t &&& (nI s ^^^ (-1 : Int32)) = nI (t &&& (s ^^^ 63)) ∧ t &&& (s ^^^ 63) < 64 := by decide +kernel
theorem vbc_pc : ∀ m, m < 64 → vbc (nI m) = nI (pc m) := by decide +kernel
theorem pc_le : ∀ m, m < 64 → pc m ≤ 6 := by decide +kernel
theorem ones_tab : ∀ m, m < 64 → m ≠ 0 → ∃ m', m' < m ∧ nI m &&& (nI m - (1 : Int32)) = nI m' ∧ pc m = pc m' + 1 := by decide +kernel
theorem mk_tab : ∀ c, c < 7 → ((nI c &&& (1 : Int32) = 0) ↔ sg c = 1) ∧ ((nI c - nI c / (2 : Int32) * (2 : Int32) = 0) ↔ sg c = 1) := by decide +kernel
theorem wp_ones {m : Nat} (hm : m < 64) {k : Int32 → Prop} (h : k (nI (pc m))) : wpX7_ones (nI m) k := by
  unfold wpX7_ones
  refine wloop_m (fun s => ∃ x n, x < 64 ∧ s = (nI n, nI x) ∧ n + pc x = pc m) (fun s => s.2.toNatClampNeg) ⟨m, 0, hm, rfl, by omega⟩ ?_
  rintro s again ⟨x, n, hx, rfl, hn⟩ hag
  rw [wbX7_ones_4]
  refine pk_eq x 0 (fun e => ?_) (fun e => ?_)
  · subst e
    have e0 : pc 0 = 0 := rfl
    rw [e0] at hn
    rw [show n = pc m by omega]
    exact h
  · obtain ⟨x', h1, h2, h3⟩ := ones_tab x hx e
    rw [h2, nI_1]
    refine hag _ ⟨x', n + 1, by omega, rfl, by omega⟩ ?_
    show (nI x').toNatClampNeg < (nI x).toNatClampNeg
    rw [nI_clamp (by omega), nI_clamp (by omega)]
    exact h1
theorem iI_ch_1 : iI 1 = (1 : Int32) := rfl
theorem iI_ch_m : iI (-1) = (-1 : Int32) := rfl
theorem wp_markM {t s : Nat} (ht : t < 64) (hs : s < 64) {k : Int32 → Prop} (h : k (iI (ch t s))) : wpX7_markOf (nI t) (nI s) k := by
  unfold wpX7_markOf
  obtain ⟨h1, h2⟩ := and63 t ht s hs
  rw [h1]
  refine wp_ones h2 ?_
  have h3 := (mk_tab _ (Nat.lt_succ_of_le (pc_le _ h2))).2
  rw [h3]
  refine ⟨fun e => ?_, fun e => ?_⟩
  · unfold ch at h; rw [e] at h; exact h
  · rcases ch_1 t s with e2 | e2
    · exact absurd e2 e
    · rw [e2] at h; exact h
theorem wp_markX {t s : Nat} (ht : t < 64) (hs : s < 64) {k : Int32 → Prop} (h : k (iI (ch t s))) : wpX1_markOf (nI t) (nI s) k := by
  unfold wpX1_markOf
  obtain ⟨h1, h2⟩ := and63 t ht s hs
  rw [h1, vbc_pc _ h2]
  have h3 := (mk_tab _ (Nat.lt_succ_of_le (pc_le _ h2))).1
  rw [h3]
  refine ⟨fun e => ?_, fun e => ?_⟩
  · unfold ch at h; rw [e] at h; exact h
  · rcases ch_1 t s with e2 | e2
    · exact absurd e2 e
    · rw [e2] at h; exact h
/-- how many SETTINGS -/
theorem shl_tab : ∀ K, K < 7 → (1 : Int32) <<< (nI K &&& 31) = nI (2 ^ K) ∧ 2 ^ K ≤ 64 ∧ 0 < 2 ^ K := by decide +kernel
theorem wp_settM {g : Nat → Int32} {K : Nat} (hK : K < 7) (hg : g 0 = nI K) {k : Int32 → Prop} (h : k (nI (2 ^ K))) : wpX7_settings g k := by
  unfold wpX7_settings
  rw [hg, (shl_tab K hK).1]; exact h
theorem wp_settX {c : Int32} {K : Nat} (hK : K < 7) (hg : c = nI K) {k : Int32 → Prop} (h : k (nI (2 ^ K))) : wpX1_settingCount c k := by
  unfold wpX1_settingCount
  rw [hg, (shl_tab K hK).1]; exact h
theorem has_cases (a : Int32) {n : Nat} (hn : n < 2 ^ 31) : (∃ j, j < n ∧ a = nI j) ∨ (a < 0 ∨ nI n ≤ a) := by
  rcases pk_ix a hn with h | h | h
  · exact Or.inr (Or.inl h)
  · exact Or.inr (Or.inr h)
  · exact Or.inl h
theorem wp_hasX {c : Int32} {K : Nat} (hK : K < 7) (hg : c = nI K) (a : Int32) {k : Int32 → Prop} (h1 : ∀ j, j < 2 ^ K → a = nI j → k 1) (h0 : (∀ j, j < 2 ^ K → a ≠ nI j) → k 0) : wpX1_hasNumber c a k := by
  have hb := (shl_tab K hK).2.1
  unfold wpX1_hasNumber
  rcases has_cases a (n := 2 ^ K) (by omega) with ⟨j, hj, e⟩ | h
  · subst e
    refine ⟨fun z => absurd z (nI_pos (by omega)), fun _ => wp_settX hK hg ?_⟩
    exact ⟨fun z => absurd z (nI_ge hj (by omega)), fun _ => h1 j hj rfl⟩
  · have hno : ∀ j, j < 2 ^ K → a ≠ nI j := fun j hj e => by
      subst e
      rcases h with h | h
      · exact nI_pos (by omega) h
      · exact nI_ge hj (by omega) h
    refine ⟨fun _ => h0 hno, fun z => wp_settX hK hg ?_⟩
    rcases h with h | h
    · exact absurd h z
    · exact ⟨fun _ => h0 hno, fun z2 => absurd h z2⟩
theorem wp_isM {g : Nat → Int32} {K : Nat} (hK : K < 7) (hg : g 0 = nI K) (a : Int32) {k : Int32 → Prop} (h1 : ∀ j, j < 2 ^ K → a = nI j → k 1) (h0 : (∀ j, j < 2 ^ K → a ≠ nI j) → k 0) : wpX7_isSetting g a k := by
  have hb := (shl_tab K hK).2.1
  unfold wpX7_isSetting
  rcases has_cases a (n := 2 ^ K) (by omega) with ⟨j, hj, e⟩ | h
  · subst e
    refine ⟨fun z => absurd z (nI_pos (by omega)), fun _ => wp_settM hK hg ?_⟩
    exact ⟨fun z => absurd z (nI_ge hj (by omega)), fun _ => h1 j hj rfl⟩
  · have hno : ∀ j, j < 2 ^ K → a ≠ nI j := fun j hj e => by
      subst e
      rcases h with h | h
      · exact nI_pos (by omega) h
      · exact nI_ge hj (by omega) h
    refine ⟨fun _ => h0 hno, fun z => wp_settM hK hg ?_⟩
    rcases h with h | h
    · exact absurd h z
    · exact ⟨fun _ => h0 hno, fun z2 => absurd h z2⟩
