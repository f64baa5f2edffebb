/-! products of words: the reference's row, the class's set -/
def pn (wo : Nat → Nat) (but : Nat) : Nat → Nat
  | 0 => 0
  | m + 1 => pn wo but m + (if m ≠ but ∧ wo m ≠ 0 then 1 else 0)
def pf (wo : Nat → Nat) (but : Nat) : Nat → Nat → Nat
  | 0, _ => 0
  | m + 1, k => if m ≠ but ∧ wo m ≠ 0 then (if k < 2 ^ pn wo but m then pf wo but m k else pf wo but m (k - 2 ^ pn wo but m) ^^^ wo m) else pf wo but m k
theorem pn_le (wo : Nat → Nat) (but : Nat) : ∀ m, pn wo but m ≤ m
  | 0 => Nat.le_refl _
  | m + 1 => by rw [pn]; have := pn_le wo but m; split <;> omega
theorem p2m : ∀ e, e < 5 → 2 ^ e ≤ 16 := by decide
theorem sp_pf (wo : Nat → Nat) (but : Nat) : ∀ m t, sp wo but m t ↔ ∃ k, k < 2 ^ pn wo but m ∧ pf wo but m k = t
  | 0, t => by
    show t = 0 ↔ _
    exact ⟨fun h => ⟨0, Nat.two_pow_pos _, h.symm⟩, fun ⟨k, _, h⟩ => h.symm⟩
  | m + 1, t => by
    rw [sp, sp_pf wo but m t, sp_pf wo but m (t ^^^ wo m)]
    by_cases c : m ≠ but ∧ wo m ≠ 0
    · have ep : pn wo but (m + 1) = pn wo but m + 1 := by rw [pn, if_pos c]
      have ef : ∀ k, pf wo but (m + 1) k = if k < 2 ^ pn wo but m then pf wo but m k else pf wo but m (k - 2 ^ pn wo but m) ^^^ wo m := fun k => by rw [pf, if_pos c]
      rw [ep, Nat.pow_succ]
      constructor
      · rintro (⟨k, h1, h2⟩ | ⟨_, _, k, h1, h2⟩)
        · exact ⟨k, by omega, by rw [ef, if_pos h1]; exact h2⟩
        · refine ⟨k + 2 ^ pn wo but m, by omega, ?_⟩
          rw [ef, if_neg (by omega), Nat.add_sub_cancel, h2, Nat.xor_assoc, Nat.xor_self, Nat.xor_zero]
      · rintro ⟨k, h1, h2⟩
        rw [ef] at h2
        by_cases e : k < 2 ^ pn wo but m
        · rw [if_pos e] at h2; exact Or.inl ⟨k, e, h2⟩
        · rw [if_neg e] at h2
          exact Or.inr ⟨c.1, c.2, k - 2 ^ pn wo but m, by omega, by rw [← h2, Nat.xor_assoc, Nat.xor_self, Nat.xor_zero]⟩
    · have ep : pn wo but (m + 1) = pn wo but m := by rw [pn, if_neg c]; rfl
      have ef : ∀ k, pf wo but (m + 1) k = pf wo but m k := fun k => by rw [pf, if_neg c]
      rw [ep]
      constructor
      · rintro (⟨k, h1, h2⟩ | ⟨h1, h2, _⟩)
        · exact ⟨k, h1, by rw [ef]; exact h2⟩
        · exact absurd ⟨h1, h2⟩ c
      · rintro ⟨k, h1, h2⟩
        rw [ef] at h2; exact Or.inl ⟨k, h1, h2⟩
theorem xor64 {a b : Nat} (ha : a < 64) (hb : b < 64) : a ^^^ b < 64 := Nat.xor_lt_two_pow (n := 6) ha hb
theorem pf_lt {wo : Nat → Nat} (hw : ∀ i, wo i < 64) (but : Nat) : ∀ m k, pf wo but m k < 64
  | 0, _ => by show 0 < 64; decide
  | m + 1, k => by
    rw [pf]
    split
    · split
      · exact pf_lt hw but m k
      · exact xor64 (pf_lt hw but m _) (hw m)
    · exact pf_lt hw but m k
theorem xor_tab : ∀ a, a < 64 → ∀ b, b < 64 → nI a ^^^ nI b = nI (a ^^^ b) := by decide +kernel
theorem wp_joins {e : Nat} (he : e < 4) {pr : Nat → Nat} (hpr : ∀ k, pr k < 64) {w : Nat} (hw : w < 64) {product : Nat → Int32} (hp : ∀ k, k < 2 ^ e → product k = nI (pr k)) {k : Int32 → (Nat → Int32) → Prop} (h : ∀ f, (∀ k, k < 2 ^ (e + 1) → f k = nI (if k < 2 ^ e then pr k else pr (k - 2 ^ e) ^^^ w)) → k (nI (2 ^ (e + 1))) f) : wpX7_joins (nI (2 ^ e)) product (nI w) k := by
  have h16 := p2m (e + 1) (by omega)
  rw [Nat.pow_succ] at h16
  unfold wpX7_joins
  refine wloop_n (fun i st => ∃ f, st = (nI i, f) ∧ (∀ k, k < 2 ^ e → f k = nI (pr k)) ∧ ∀ k, k < i → f (2 ^ e + k) = nI (pr k ^^^ w)) (2 ^ e) ⟨product, rfl, hp, fun j hj => absurd hj (Nat.not_lt_zero _)⟩ ?_ ?_
  · rintro i st again hi ⟨f, rfl, h1, h2⟩ hag
    rw [wbX7_joins_2]
    refine pk_le (2 ^ e) i (fun z => absurd z (by omega)) (fun _ => ?_)
    rw [nI_add, nI_clamp (by omega), nI_clamp (by omega), h1 i hi, xor_tab _ (hpr i) _ hw, nI_1]
    refine ⟨vp_in_nI (by omega) (by omega), vp_in_nI (by omega) (by omega), hag _ ⟨_, rfl, fun k hk => ?_, fun k hk => ?_⟩⟩
    · rw [pk_un (by omega), h1 k hk]
    · by_cases e2 : k = i
      · subst e2; rw [pk_us]
      · rw [pk_un (by omega), h2 k (by omega)]
  · rintro st again ⟨f, rfl, h1, h2⟩
    rw [wbX7_joins_2]
    refine pk_le (2 ^ e) (2 ^ e) (fun _ => ?_) (fun z => absurd z (by omega))
    rw [show (2 : Int32) * nI (2 ^ e) = nI (2 ^ (e + 1)) by rw [Nat.pow_succ, Nat.mul_comm]; exact pk_mul 2 (2 ^ e)]
    refine h f (fun k hk => ?_)
    rw [Nat.pow_succ] at hk
    by_cases e2 : k < 2 ^ e
    · rw [if_pos e2, h1 k e2]
    · rw [if_neg e2, ← h2 (k - 2 ^ e) (by omega)]; congr 1; omega
theorem wp_mult {wo : Nat → Nat} (hw : ∀ i, wo i < 64) {but : Nat} {g : Nat → Int32} (hg : ∀ i, i < 4 → g (71 + i) = nI (wo i)) {a1 : Int32} (ha : ∀ i, i < 4 → (nI i = a1 ↔ i = but)) {products : Int32} {product : Nat → Int32} {k : Int32 → (Nat → Int32) → Prop} (h : ∀ f, (∀ k, k < 2 ^ pn wo but 4 → f k = nI (pf wo but 4 k)) → k (nI (2 ^ pn wo but 4)) f) : wpX7_multiplies g products product a1 k := by
  unfold wpX7_multiplies
  refine wloop_n (fun i st => ∃ f, st = (nI i, nI (2 ^ pn wo but i), f) ∧ ∀ k, k < 2 ^ pn wo but i → f k = nI (pf wo but i k)) 4 ⟨_, rfl, fun k hk => ?_⟩ ?_ ?_
  · have : k = 0 := by have : k < 1 := hk; omega
    subst this; rw [pk_us]; rfl
  · rintro i st again hi ⟨f, rfl, h1⟩ hag
    rw [wbX7_multiplies_14]
    refine pk_le 4 i (fun z => absurd z (by omega)) (fun _ => ?_)
    rw [show (71 : Int32) + nI i = nI (71 + i) from nI_add 71 i, nI_clamp (by omega), hg i hi, ha i hi, nI_1]
    refine ⟨fun z => hag _ ⟨f, ?_, fun k hk => ?_⟩, fun z => ⟨vp_in_nI (by omega) (by omega), pk_eq (wo i) 0 (fun z2 => hag _ ⟨f, ?_, fun k hk => ?_⟩) (fun z2 => ⟨vp_in_nI (by omega) (by omega), ?_⟩) (ha := by have := hw i; omega)⟩⟩
    · rw [pn, if_neg (fun c => c.1 z)]; rfl
    · rw [pn, if_neg (fun c => c.1 z)] at hk
      rw [pf, if_neg (fun c => c.1 z)]; exact h1 k hk
    · rw [pn, if_neg (fun c => c.2 z2)]; rfl
    · rw [pn, if_neg (fun c => c.2 z2)] at hk
      rw [pf, if_neg (fun c => c.2 z2)]; exact h1 k hk
    · have hle := pn_le wo but i
      refine wp_joins (by omega) (pf_lt hw but i) (hw i) h1 (fun f' hf' => hag _ ⟨f', ?_, fun k hk => ?_⟩)
      · rw [pn, if_pos ⟨z, z2⟩]
      · rw [pn, if_pos ⟨z, z2⟩] at hk
        rw [pf, if_pos ⟨z, z2⟩]; exact hf' k hk
  · rintro st again ⟨f, rfl, h1⟩
    rw [wbX7_multiplies_14]
    exact pk_le 4 4 (fun _ => h f h1) (fun z => absurd z (by omega))
theorem wp_isProd {q : Nat} (hq : q ≤ 16) {pr : Nat → Nat} (hpr : ∀ k, pr k < 64) {t : Nat} (ht : t < 64) {product : Nat → Int32} (hp : ∀ k, k < q → product k = nI (pr k)) {k : Int32 → Prop} (h1 : (∃ j, j < q ∧ pr j = t) → k 1) (h0 : (∀ j, j < q → pr j ≠ t) → k 0) : wpX7_isProduct (nI q) product (nI t) k := by
  unfold wpX7_isProduct
  refine wloop_n (fun i st => st = nI i ∧ ∀ a, a < i → pr a ≠ t) q ⟨rfl, fun a ha => absurd ha (Nat.not_lt_zero _)⟩ ?_ ?_
  · rintro i st again hi ⟨rfl, hf⟩ hag
    rw [wbX7_isProduct_2]
    refine pk_le q i (fun z => absurd z (by omega)) (fun _ => ⟨vp_in_nI (by omega) (by omega), ?_⟩)
    rw [nI_clamp (by omega), hp i hi]
    have := hpr i
    refine pk_eq (pr i) t (fun z => h1 ⟨i, hi, z⟩) (fun z => ?_)
    rw [nI_1]
    refine hag _ ⟨rfl, fun a ha => ?_⟩
    by_cases e : a = i
    · subst e; exact z
    · exact hf a (by omega)
  · rintro st again ⟨rfl, hf⟩
    rw [wbX7_isProduct_2]
    exact pk_le q q (fun _ => h0 hf) (fun z => absurd z (by omega))
theorem wp_isProdS {wo : Nat → Nat} (hw : ∀ i, wo i < 64) {but : Nat} {t : Nat} (ht : t < 64) {product : Nat → Int32} (hp : ∀ k, k < 2 ^ pn wo but 4 → product k = nI (pf wo but 4 k)) {k : Int32 → Prop} (h1 : sp wo but 4 t → k 1) (h0 : ¬ sp wo but 4 t → k 0) : wpX7_isProduct (nI (2 ^ pn wo but 4)) product (nI t) k :=
  wp_isProd (p2m _ (by have := pn_le wo but 4; omega)) (pf_lt hw but 4) ht hp (fun ⟨j, hj, e⟩ => h1 ((sp_pf wo but 4 t).2 ⟨j, hj, e⟩)) (fun hn => h0 (fun hs => by
    obtain ⟨j, hj, e⟩ := (sp_pf wo but 4 t).1 hs
    exact hn j hj e))
/-! the class's set of bits -/
def bt (P : Int64) (t : Nat) : Bool := P.toBitVec.getLsbD t
theorem bt_or (P Q : Int64) (t : Nat) : bt (P ||| Q) t = (bt P t || bt Q t) := by
  unfold bt; rw [Int64.toBitVec_or, BitVec.getLsbD_or]
theorem bt_1 : ∀ v, v < 64 → ∀ u, u < 64 → bt ((1 : Int64) <<< ((nI v).toInt64 &&& 63)) u = decide (u = v) := by decide +kernel
theorem bt_0 (t : Nat) : bt 0 t = false := by unfold bt; exact BitVec.getLsbD_zero
theorem bt_one : ∀ t, t < 64 → bt 1 t = decide (t = 0) := by decide +kernel
theorem sh_tab : ∀ t, t < 64 → (nI t).toInt64.toUInt64 &&& Int64.toUInt64 63 = UInt64.ofNat t := by decide +kernel
theorem has_bt (P : Int64) {t : Nat} (ht : t < 64) : (((P.toUInt64 >>> ((nI t).toInt64.toUInt64 &&& Int64.toUInt64 63)).toInt64 &&& (1 : Int64)) = (0 : Int64)) ↔ bt P t = false := by
  rw [sh_tab t ht]
  have e1 : ((P.toUInt64 >>> UInt64.ofNat t).toInt64 &&& (1 : Int64)).toBitVec = (P.toBitVec >>> t) &&& 1#64 := by
    rw [Int64.toBitVec_and]
    congr 1
    show (P.toUInt64 >>> UInt64.ofNat t).toBitVec = _
    rw [UInt64.toBitVec_shiftRight]
    show P.toBitVec >>> ((UInt64.ofNat t).toBitVec % 64) = _
    rw [BitVec.ushiftRight_eq', BitVec.toNat_umod]
    congr 1
    show t % 2 ^ 64 % 64 = t
    rw [Nat.mod_eq_of_lt (show t < 2 ^ 64 by omega), Nat.mod_eq_of_lt ht]
  have e2 : ((P.toBitVec >>> t) &&& 1#64 = 0#64) ↔ P.toBitVec.getLsbD t = false := by
    constructor
    · intro h
      have := congrArg (fun z => z.getLsbD 0) h
      simpa using this
    · intro h
      apply BitVec.eq_of_getLsbD_eq
      intro i hi
      rw [BitVec.getLsbD_and, BitVec.getLsbD_ushiftRight]
      by_cases e : i = 0
      · subst e; simp [h]
      · rw [show (1#64).getLsbD i = false by rw [BitVec.getLsbD_one]; simp; omega]; simp
  rw [← Int64.toBitVec_inj, e1]
  exact e2
theorem wp_hasMem (P : Int64) {t : Nat} (ht : t < 64) {k : Int32 → Prop} (h1 : bt P t = true → k 1) (h0 : bt P t = false → k 0) : wpX1_hasMember P (nI t) k := by
  unfold wpX1_hasMember
  rw [has_bt P ht]
  exact ⟨h0, fun z => h1 (by simpa using z)⟩
theorem xor_xor (a b : Nat) : a ^^^ b ^^^ b = a := by rw [Nat.xor_assoc, Nat.xor_self, Nat.xor_zero]
theorem wp_multd (P : Int64) {w : Nat} (hw : w < 64) {k : Int64 → Prop} (h : ∀ Q, (∀ t, t < 64 → bt Q t = bt P (t ^^^ w)) → k Q) : wpX1_multiplied P (nI w) k := by
  unfold wpX1_multiplied
  refine wloop_n (fun i st => ∃ Q, st = (Q, nI i) ∧ ∀ u, u < 64 → (bt Q u = true ↔ (u ^^^ w < i ∧ bt P (u ^^^ w) = true))) 64 ⟨0, rfl, fun u _ => by rw [bt_0]; exact ⟨fun z => absurd z (by decide), fun z => absurd z.1 (Nat.not_lt_zero _)⟩⟩ ?_ ?_
  · rintro i st again hi ⟨Q, rfl, hQ⟩ hag
    rw [wbX1_multiplied_5]
    refine pk_le 64 i (fun z => absurd z (by omega)) (fun _ => ?_)
    refine wp_hasMem P hi (fun hb => ⟨fun z => absurd z (by decide), fun _ => ?_⟩) (fun hb => ⟨fun _ => ?_, fun z => absurd rfl z⟩)
    · rw [nI_1, xor_tab i hi w hw]
      refine hag _ ⟨_, rfl, fun u hu => ?_⟩
      rw [bt_or, bt_1 _ (xor64 hi hw) u hu, Bool.or_eq_true, hQ u hu, decide_eq_true_iff]
      constructor
      · rintro (⟨h1, h2⟩ | h1)
        · exact ⟨by omega, h2⟩
        · subst h1; rw [xor_xor]; exact ⟨by omega, hb⟩
      · rintro ⟨h1, h2⟩
        by_cases e : u ^^^ w = i
        · right; rw [← e, xor_xor]
        · left; exact ⟨by omega, h2⟩
    · rw [nI_1]
      refine hag _ ⟨Q, rfl, fun u hu => ?_⟩
      rw [hQ u hu]
      constructor
      · rintro ⟨h1, h2⟩; exact ⟨by omega, h2⟩
      · rintro ⟨h1, h2⟩
        by_cases e : u ^^^ w = i
        · rw [e, hb] at h2; exact absurd h2 (by decide)
        · exact ⟨by omega, h2⟩
  · rintro st again ⟨Q, rfl, hQ⟩
    rw [wbX1_multiplied_5]
    refine pk_le 64 64 (fun _ => h Q (fun t ht => ?_)) (fun z => absurd z (by omega))
    have h1 := hQ t ht
    have h2 := xor64 ht hw
    rw [Bool.eq_iff_iff, h1]
    exact ⟨fun z => z.2, fun z => ⟨h2, z⟩⟩
theorem wp_prods {wo : Nat → Nat} (hw : ∀ i, wo i < 64) {but : Nat} {words : Nat → Int32} (hg : ∀ i, i < 4 → words i = nI (wo i)) {a1 : Int32} (ha : ∀ i, i < 4 → (nI i = a1 ↔ i = but)) {k : Int64 → Prop} (h : ∀ P, (∀ t, t < 64 → (bt P t = true ↔ sp wo but 4 t)) → k P) : wpX1_productsWithout words a1 k := by
  unfold wpX1_productsWithout
  refine wloop_n (fun i st => ∃ P, st = (P, nI i) ∧ ∀ t, t < 64 → (bt P t = true ↔ sp wo but i t)) 4 ⟨1, rfl, fun t ht => by rw [bt_one t ht, decide_eq_true_iff]; exact Iff.rfl⟩ ?_ ?_
  · rintro i st again hi ⟨P, rfl, hP⟩ hag
    rw [wbX1_productsWithout_5]
    refine pk_le 4 i (fun z => absurd z (by omega)) (fun _ => ?_)
    rw [nI_clamp (by omega), hg i hi, ha i hi, nI_1]
    refine ⟨fun z => hag _ ⟨P, rfl, fun t ht => ?_⟩, fun z => ⟨vp_in_nI (by omega) (by omega), pk_eq (wo i) 0 (fun z2 => hag _ ⟨P, rfl, fun t ht => ?_⟩) (fun z2 => ⟨vp_in_nI (by omega) (by omega), ?_⟩) (ha := by have := hw i; omega)⟩⟩
    · rw [hP t ht, sp]
      exact ⟨Or.inl, fun z3 => z3.elim id (fun z4 => absurd z z4.1)⟩
    · rw [hP t ht, sp]
      exact ⟨Or.inl, fun z3 => z3.elim id (fun z4 => absurd z2 z4.2.1)⟩
    · refine wp_multd P (hw i) (fun Q hQ => hag _ ⟨_, rfl, fun t ht => ?_⟩)
      rw [bt_or, Bool.or_eq_true, hQ t ht, hP t ht, hP _ (xor64 ht (hw i)), sp]
      exact ⟨fun z3 => z3.elim Or.inl (fun z4 => Or.inr ⟨z, z2, z4⟩), fun z3 => z3.elim Or.inl (fun z4 => Or.inr z4.2.2)⟩
  · rintro st again ⟨P, rfl, hP⟩
    rw [wbX1_productsWithout_5]
    exact pk_le 4 4 (fun _ => h P hP) (fun z => absurd z (by omega))
theorem wp_wc {wo : Nat → Nat} (hw : ∀ i, wo i < 64) {words : Nat → Int32} (hg : ∀ i, i < 4 → words i = nI (wo i)) {k : Int32 → Prop} (h : k (nI (pn wo 4 4))) : wpX1_wordCount words k := by
  unfold wpX1_wordCount
  refine wloop_n (fun i st => st = (nI (pn wo 4 i), nI i)) 4 rfl ?_ ?_
  · rintro i st again hi rfl hag
    rw [wbX1_wordCount_4]
    refine pk_le 4 i (fun z => absurd z (by omega)) (fun _ => ⟨vp_in_nI hi (by omega), ?_⟩)
    rw [nI_clamp (by omega), hg i hi, nI_1, nI_1]
    refine pk_eq (wo i) 0 (fun z => hag _ ?_) (fun z => hag _ ?_) (ha := by have := hw i; omega)
    · rw [pn, if_neg (fun c => c.2 z), show (0 : Int32) = nI 0 from rfl, nI_add]
    · rw [pn, if_pos ⟨by omega, z⟩]
  · rintro st again rfl
    rw [wbX1_wordCount_4]
    exact pk_le 4 4 (fun _ => h) (fun z => absurd z (by omega))
theorem nob : ∀ i, i < 4 → (nI i = (-1 : Int32) ↔ i = 4) := by decide +kernel
