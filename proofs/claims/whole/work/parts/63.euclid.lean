/-! lowest terms -/
theorem lI_self (x : Int64) : lI x.toInt = x := Int64.ofInt_toInt x
theorem l_div (x y : Int64) : x / y = lI (x.toInt.tdiv y.toInt) := by
  apply Int64.toInt_inj.mp
  rw [Int64.toInt_div]
  exact (Int64.toInt_ofInt).symm
theorem l_rem (x y : Int64) : x - x / y * y = lI (x.toInt.tmod y.toInt) := by
  rw [l_div]
  have e : lI x.toInt - lI (x.toInt.tdiv y.toInt) * lI y.toInt = lI (x.toInt.tmod y.toInt) := by
    rw [lI_mul, lI_sub, Int.tmod_def, Int.mul_comm]
  rw [lI_self, lI_self] at e
  exact e
theorem l_remT (x y : Int64) (hy : y ≠ 0) : (x - x / y * y).toInt.natAbs = x.toInt.natAbs % y.toInt.natAbs := by
  have h0 : y.toInt ≠ 0 := fun e => hy (Int64.toInt_inj.mp e)
  have h1 := Int64.le_toInt y
  have h2 := Int64.toInt_lt y
  have h3 : (x.toInt.tmod y.toInt).natAbs < y.toInt.natAbs := by
    rw [Int.natAbs_tmod]; exact Nat.mod_lt _ (by omega)
  rw [l_rem, lI_T (by omega) (by omega), Int.natAbs_tmod]
def eu (x y : Int64) : Nat → Int64 × Int64
  | 0 => (x, y)
  | i + 1 => if (eu x y i).2 = 0 then eu x y i else ((eu x y i).2, (eu x y i).1 - (eu x y i).1 / (eu x y i).2 * (eu x y i).2)
theorem eu_stay {x y : Int64} {i : Nat} (h : (eu x y i).2 = 0) : ∀ d, eu x y (i + d) = eu x y i
  | 0 => rfl
  | d + 1 => by
    have e := eu_stay h d
    rw [show i + (d + 1) = (i + d) + 1 by omega, eu, e, if_pos h]
theorem eu_ne {x y : Int64} (hy : y ≠ 0) : ∀ i, (eu x y i).1 ≠ 0 ∨ (eu x y i).2 ≠ 0
  | 0 => Or.inr hy
  | i + 1 => by
    rw [eu]
    by_cases e : (eu x y i).2 = 0
    · rw [if_pos e]; exact eu_ne hy i
    · rw [if_neg e]; exact Or.inl e
theorem half {a b : Nat} (hb : 0 < b) (h : b < a) : 2 * (a % b) ≤ a := by
  have h1 := Nat.mod_lt a hb
  have h2 := Nat.div_add_mod a b
  have h3 : 1 ≤ a / b := (Nat.le_div_iff_mul_le hb).mpr (by omega)
  have h4 : b * 1 ≤ b * (a / b) := Nat.mul_le_mul_left b h3
  omega
theorem eu_half (x y : Int64) (i : Nat) : 2 * (eu x y (i + 2)).2.toInt.natAbs ≤ (eu x y i).2.toInt.natAbs := by
  by_cases e0 : (eu x y i).2 = 0
  · rw [eu_stay e0 2, e0]; decide
  · have e1 : eu x y (i + 1) = ((eu x y i).2, (eu x y i).1 - (eu x y i).1 / (eu x y i).2 * (eu x y i).2) := by rw [eu, if_neg e0]
    have h1 : (eu x y (i + 1)).2.toInt.natAbs = (eu x y i).1.toInt.natAbs % (eu x y i).2.toInt.natAbs := by rw [e1]; exact l_remT _ _ e0
    have hp : 0 < (eu x y i).2.toInt.natAbs := by
      have : (eu x y i).2.toInt ≠ 0 := fun e => e0 (Int64.toInt_inj.mp e)
      omega
    have h2 := Nat.mod_lt (eu x y i).1.toInt.natAbs hp
    by_cases e2 : (eu x y (i + 1)).2 = 0
    · rw [show i + 2 = (i + 1) + 1 by omega, eu_stay e2 1, e2]
      show 2 * 0 ≤ _
      omega
    · have e3 : eu x y (i + 2) = ((eu x y (i + 1)).2, (eu x y (i + 1)).1 - (eu x y (i + 1)).1 / (eu x y (i + 1)).2 * (eu x y (i + 1)).2) := by rw [show i + 2 = (i + 1) + 1 by omega, eu, if_neg e2]
      have h3 : (eu x y (i + 2)).2.toInt.natAbs = (eu x y (i + 1)).1.toInt.natAbs % (eu x y (i + 1)).2.toInt.natAbs := by rw [e3]; exact l_remT _ _ e2
      have h4 : (eu x y (i + 1)).1 = (eu x y i).2 := by rw [e1]
      have h5 : 0 < (eu x y (i + 1)).2.toInt.natAbs := by
        have : (eu x y (i + 1)).2.toInt ≠ 0 := fun e => e2 (Int64.toInt_inj.mp e)
        omega
      rw [h3, h4]
      exact half h5 (by omega)
theorem eu_pow (x y : Int64) : ∀ j, 2 ^ j * (eu x y (2 * j)).2.toInt.natAbs ≤ y.toInt.natAbs
  | 0 => by show 1 * y.toInt.natAbs ≤ _; omega
  | j + 1 => by
    have h := eu_pow x y j
    have h2 := eu_half x y (2 * j)
    rw [show 2 * (j + 1) = 2 * j + 2 by omega, Nat.pow_succ, Nat.mul_assoc]
    exact Nat.le_trans (Nat.mul_le_mul_left _ h2) h
theorem eu_end {x y : Int64} (hy : y.toInt.natAbs < 2 ^ 37) : (eu x y 100).2 = 0 := by
  have h := eu_pow x y 50
  rw [show 2 * 50 = 100 from rfl] at h
  have h2 : (eu x y 100).2.toInt.natAbs = 0 := by
    by_cases e : (eu x y 100).2.toInt.natAbs = 0
    · exact e
    · have : 2 ^ 50 * 1 ≤ 2 ^ 50 * (eu x y 100).2.toInt.natAbs := Nat.mul_le_mul_left _ (by omega)
      have : (2 : Nat) ^ 37 ≤ 2 ^ 50 := by decide
      omega
  exact Int64.toInt_inj.mp (Int.natAbs_eq_zero.mp h2)
def ab (x : Int64) : Int64 := if 0 < x then x else -x
def gd (x y : Int64) : Int64 := (eu (ab x) y 100).1
def fr (x y : Int64) (w : Int32) : Int64 := if w = 0 then x / gd x y else y / gd x y
theorem gd_ne {x : Int64} {D : Int} (h1 : 0 < D) (h2 : D < 137438953472) : gd x (lI D) ≠ 0 := by
  have hT : (lI D).toInt = D := lI_T (by omega) (by omega)
  have h3 := eu_end (x := ab x) (y := lI D) (by rw [hT]; omega)
  rcases eu_ne (x := ab x) (y := lI D) (fun e => by rw [lI_zero (by omega)] at e; omega) 100 with h | h
  · exact h
  · exact absurd h3 h
theorem wp_common {x : Int64} {D : Int} (h1 : 0 < D) (h2 : D < 137438953472) {k : Int64 → Prop} (h : k (gd x (lI D))) : wpX7_common x (lI D) k := by
  have hT : (lI D).toInt = D := lI_T (by omega) (by omega)
  have main : wjX7_common_12 (lI D) k (ab x) := by
    unfold wjX7_common_12
    refine wloop_n (fun t st => st = eu (ab x) (lI D) t) 100 rfl ?_ ?_
    · rintro t st again ht rfl hag
      have hh := hag (eu (ab x) (lI D) (t + 1)) rfl
      rw [eu] at hh
      have hs := fun z => eu_stay (x := ab x) (y := lI D) (i := t) z (100 - t)
      rw [show t + (100 - t) = 100 by omega] at hs
      unfold gd at h
      generalize eu (ab x) (lI D) t = p at *
      obtain ⟨a, b⟩ := p
      rw [wbX7_common_17]
      refine ⟨fun z => ?_, fun z => ⟨z, ?_⟩⟩
      · rw [hs z] at h; exact h
      · rw [if_neg z] at hh; exact hh
    · intro st again hst
      have h3 := eu_end (x := ab x) (y := lI D) (by rw [hT]; omega)
      unfold gd at h
      generalize eu (ab x) (lI D) 100 = p at *
      subst hst
      obtain ⟨a, b⟩ := st
      rw [wbX7_common_17]
      exact ⟨fun z => h, fun z => absurd h3 z⟩
  unfold ab at main
  unfold wpX7_common
  refine ⟨fun z => ?_, fun z => ?_⟩
  · by_cases e : 0 < x
    · rw [if_pos e] at main; exact main
    · rw [if_neg e] at main
      have : x = 0 := by
        apply Int64.toInt_inj.mp
        rw [Int64.le_iff_toInt_le] at z
        rw [Int64.lt_iff_toInt_lt] at e
        omega
      subst this; exact main
  · rw [if_neg (fun e => z (Int64.le_of_lt e))] at main; exact main
theorem wp_share {x : Int64} {D : Int} (h1 : 0 < D) (h2 : D < 137438953472) {w : Int32} {k : Int64 → Prop} (h : k (fr x (lI D) w)) : wpX7_share x (lI D) w k := by
  unfold wpX7_share
  refine wp_common h1 h2 ?_
  unfold fr at h
  refine ⟨fun z => ⟨gd_ne h1 h2, ?_⟩, fun z => ⟨gd_ne h1 h2, ?_⟩⟩
  · rw [if_pos z] at h; exact h
  · rw [if_neg z] at h; exact h
theorem wp_part {x : Int64} {D : Int} (h1 : 0 < D) (h2 : D < 137438953472) {w : Int32} {k : Int64 → Prop} (h : k (fr x (lI D) w)) : wpX6_partOfFraction x (lI D) w k := by
  have hT : (lI D).toInt = D := lI_T (by omega) (by omega)
  have hpos : (0 : Int64) < lI D := (lI_lt (a := 0) (by decide) (by omega)).mpr h1
  have main : ∀ kk : Int64 → Prop, kk (gd x (lI D)) → wpX6_commonDivisor x (lI D) kk := by
    intro kk hk
    unfold wpX6_commonDivisor
    rw [if_pos hpos]
    refine wloop_n (fun t st => st = ((eu (ab x) (lI D) t).1, (eu (ab x) (lI D) t).2, nI t)) 100 rfl ?_ ?_
    · rintro t st again ht rfl hag
      have hh := hag ((eu (ab x) (lI D) (t + 1)).1, (eu (ab x) (lI D) (t + 1)).2, nI (t + 1)) rfl
      rw [eu] at hh
      have hs := fun z => eu_stay (x := ab x) (y := lI D) (i := t) z (100 - t)
      rw [show t + (100 - t) = 100 by omega] at hs
      unfold gd at hk
      generalize eu (ab x) (lI D) t = p at *
      obtain ⟨a, b⟩ := p
      rw [wbX6_commonDivisor_15]
      refine pk_le 100 t (fun z => absurd z (by omega)) (fun _ => ⟨fun z => ?_, fun z => ⟨z, ?_⟩⟩)
      · rw [hs z] at hk; exact hk
      · rw [if_neg z] at hh; rw [nI_1]; exact hh
    · rintro st again rfl
      rw [wbX6_commonDivisor_15]
      exact pk_le 100 100 (fun z => hk) (fun z => absurd z (by omega))
  unfold wpX6_partOfFraction
  refine main _ ⟨fun z => absurd z (gd_ne h1 h2), fun _ => ?_⟩
  unfold fr at h
  refine ⟨fun z => ⟨gd_ne h1 h2, ?_⟩, fun z => ⟨gd_ne h1 h2, ?_⟩⟩
  · rw [if_pos z] at h; exact h
  · rw [if_neg z] at h; exact h
