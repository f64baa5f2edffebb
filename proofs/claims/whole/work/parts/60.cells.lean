/-! the cells of a table that is swept -/
def spb (ln : Nat → Nat) (r i : Nat) : Bool := decide (∃ a, a < r ∧ ln a = i)
theorem spb_t {ln : Nat → Nat} {r a : Nat} (h : a < r) : spb ln r (ln a) = true := decide_eq_true ⟨a, h, rfl⟩
theorem spb_f {ln : Nat → Nat} {r i : Nat} (h : ∀ a, a < r → ln a ≠ i) : spb ln r i = false := decide_eq_false (fun ⟨a, h1, h2⟩ => h a h1 h2)
theorem spb_or (ln : Nat → Nat) (r i : Nat) : (∃ a, a < r ∧ ln a = i) ∨ (∀ a, a < r → ln a ≠ i) := by
  by_cases h : ∃ a, a < r ∧ ln a = i
  · exact Or.inl h
  · exact Or.inr (fun a h1 h2 => h ⟨a, h1, h2⟩)
def XC (T : Nat → Nat → Int) (ln : Nat → Nat) (r j : Nat) : Nat → Int := if spb ln r j then (fun i => - un j i) else (fun i => T i j)
def CV (T : Nat → Nat → Int) (ln : Nat → Nat) (r i j : Nat) : Int := if spb ln r i then sm r (fun a => if ln a = i then SS T ln r (XC T ln r j) a else 0) else UU T ln r (XC T ln r j) i
def inj (ln : Nat → Nat) (r : Nat) : Prop := ∀ a b, a < r → b < r → ln a = ln b → a = b
theorem XC_s {T : Nat → Nat → Int} {ln : Nat → Nat} {r a : Nat} (h : a < r) : XC T ln r (ln a) = fun i => - un (ln a) i := by unfold XC; rw [if_pos (spb_t h)]
theorem XC_u {T : Nat → Nat → Int} {ln : Nat → Nat} {r j : Nat} (h : ∀ a, a < r → ln a ≠ j) : XC T ln r j = fun i => T i j := by unfold XC; rw [if_neg (by rw [spb_f h]; decide)]
theorem CV_s {T : Nat → Nat → Int} {ln : Nat → Nat} {r : Nat} (hi : inj ln r) {a : Nat} (h : a < r) (j : Nat) : CV T ln r (ln a) j = SS T ln r (XC T ln r j) a := by
  unfold CV
  rw [if_pos (spb_t h), sm_single h (fun b hb hne => if_neg (fun e => hne (hi b a hb h e))), if_pos rfl]
theorem CV_u {T : Nat → Nat → Int} {ln : Nat → Nat} {r i : Nat} (h : ∀ a, a < r → ln a ≠ i) (j : Nat) : CV T ln r i j = UU T ln r (XC T ln r j) i := by
  unfold CV
  rw [if_neg (by rw [spb_f h]; decide)]
theorem SS_un {T : Nat → Nat → Int} {ln : Nat → Nat} {r : Nat} (hi : inj ln r) {b : Nat} (hb : b < r) (a : Nat) : SS T ln r (fun i => - un (ln b) i) a = - adj r (sb T ln) a b := by
  unfold SS
  rw [sm_single hb (fun c hc hne => by unfold un; dsimp only; rw [if_neg (fun e => hne (hi c b hc hb e))]; simp)]
  unfold un
  dsimp only
  rw [if_pos rfl]
  omega
theorem SS_lin {T : Nat → Nat → Int} (hT : ∀ i j, T i j = T j i) {ln : Nat → Nat} {r : Nat} {b : Nat} (hb : b < r) (i : Nat) : sm r (fun a => T i (ln a) * adj r (sb T ln) a b) = SS T ln r (fun j => T j i) b := by
  unfold SS
  refine sm_congr (fun a ha => ?_)
  rw [adj_sym r (sb T ln) (fun i j _ _ => hT _ _) ha hb, hT i (ln a), Int.mul_comm]
theorem UU_un {T : Nat → Nat → Int} (hT : ∀ i j, T i j = T j i) {ln : Nat → Nat} {r : Nat} (hi : inj ln r) {b : Nat} (hb : b < r) {i : Nat} (h : ∀ a, a < r → ln a ≠ i) : UU T ln r (fun i => - un (ln b) i) i = SS T ln r (fun j => T j i) b := by
  unfold UU
  rw [sm_congr (fun a ha => by rw [SS_un hi hb, Int.mul_neg]), sm_neg, SS_lin hT hb]
  unfold un
  dsimp only
  rw [if_neg (fun e => h b hb e.symm)]
  omega
theorem CV_sym {T : Nat → Nat → Int} (hT : ∀ i j, T i j = T j i) {ln : Nat → Nat} {r : Nat} (hi : inj ln r) (i j : Nat) : CV T ln r i j = CV T ln r j i := by
  rcases spb_or ln r i with ⟨a, ha, rfl⟩ | h1
  · rcases spb_or ln r j with ⟨b, hb, rfl⟩ | h2
    · rw [CV_s hi ha, CV_s hi hb, XC_s ha, XC_s hb, SS_un hi hb, SS_un hi ha, adj_sym r (sb T ln) (fun i j _ _ => hT _ _) ha hb]
    · rw [CV_s hi ha, CV_u h2, XC_s ha, XC_u h2, UU_un hT hi ha h2]
  · rcases spb_or ln r j with ⟨b, hb, rfl⟩ | h2
    · rw [CV_s hi hb, CV_u h1, XC_s hb, XC_u h1, UU_un hT hi hb h1]
    · rw [CV_u h1, CV_u h2, XC_u h1, XC_u h2, UU_sym T hT]
theorem CV_cong {T : Nat → Nat → Int} {l1 l2 : Nat → Nat} {r : Nat} (h : ∀ a, a < r → l1 a = l2 a) (hi : inj l1 r) (i j : Nat) : CV T l1 r i j = CV T l2 r i j := by
  have h2 : inj l2 r := fun a b ha hb e => hi a b ha hb (by rw [h a ha, h b hb, e])
  have hx : XC T l1 r j = XC T l2 r j := by
    rcases spb_or l1 r j with ⟨a, ha, rfl⟩ | hj
    · rw [XC_s ha, h a ha, XC_s ha]
    · rw [XC_u hj, XC_u (fun a ha => by rw [← h a ha]; exact hj a ha)]
  rcases spb_or l1 r i with ⟨a, ha, rfl⟩ | h3
  · rw [CV_s hi ha, h a ha, CV_s h2 ha, hx, SS_cong h _ ha]
  · rw [CV_u h3, CV_u (fun a ha => by rw [← h a ha]; exact h3 a ha), hx, UU_cong h]
theorem XC_more {T : Nat → Nat → Int} {ln : Nat → Nat} {r j : Nat} (hj : j ≠ ln r) : XC T ln (r + 1) j = XC T ln r j := by
  rcases spb_or ln r j with ⟨a, ha, rfl⟩ | h
  · rw [XC_s ha, XC_s (show a < r + 1 by omega)]
  · rw [XC_u h, XC_u (fun a ha => by
      by_cases e : a = r
      · subst e; exact fun z => hj z.symm
      · exact h a (by omega))]
/-- one line more is swept -/
theorem CV_step {T : Nat → Nat → Int} (hT : ∀ i j, T i j = T j i) {ln : Nat → Nat} {r : Nat} (hi : inj ln (r + 1)) (hD : DD T ln r ≠ 0) (hp : DD T ln (r + 1) ≠ 0) {i j : Nat} (h1 : i ≠ ln r) (h2 : j ≠ ln r) :
    CV T ln r i j * DD T ln (r + 1) - CV T ln r i (ln r) * CV T ln r (ln r) j = CV T ln (r + 1) i j * DD T ln r := by
  have hir : inj ln r := fun a b ha hb e => hi a b (by omega) (by omega) e
  have hk : ∀ a, a < r → ln a ≠ ln r := fun a ha e => by have := hi a r (by omega) (by omega) e; omega
  obtain ⟨s1, s2⟩ := line_step T hT ln r hD hp (XC T ln r j)
  have s3 := UU_step T hT ln r hD hp (XC T ln r j) i
  rw [CV_u hk]
  rcases spb_or ln r i with ⟨a, ha, rfl⟩ | h3
  · rw [CV_s hir ha, CV_s hi (show a < r + 1 by omega), CV_s hir ha, XC_u hk, XC_more h2, Int.mul_comm _ (DD T ln r), s1 a ha]
  · have h4 : ∀ a, a < r + 1 → ln a ≠ i := fun a ha e => by
      by_cases e2 : a = r
      · subst e2; exact h1 e.symm
      · exact h3 a (by omega) e
    rw [CV_u h3, CV_u h3, CV_u h4, XC_u hk, XC_more h2, Int.mul_comm _ (DD T ln r), s3]
    generalize UU T ln r (XC T ln r j) i = a
    generalize UU T ln r (XC T ln r j) (ln r) = b
    generalize UU T ln r (fun i => T i (ln r)) i = c
    grind
theorem CV_k {T : Nat → Nat → Int} (hT : ∀ i j, T i j = T j i) {ln : Nat → Nat} {r : Nat} (hi : inj ln (r + 1)) (hD : DD T ln r ≠ 0) (hp : DD T ln (r + 1) ≠ 0) {j : Nat} (h2 : j ≠ ln r) : CV T ln (r + 1) (ln r) j = CV T ln r (ln r) j := by
  have hk : ∀ a, a < r → ln a ≠ ln r := fun a ha e => by have := hi a r (by omega) (by omega) e; omega
  rw [CV_s hi (show r < r + 1 by omega), CV_u hk, XC_more h2, (line_step T hT ln r hD hp _).2]
theorem CV_kk {T : Nat → Nat → Int} (hT : ∀ i j, T i j = T j i) {ln : Nat → Nat} {r : Nat} (hi : inj ln (r + 1)) (hD : DD T ln r ≠ 0) (hp : DD T ln (r + 1) ≠ 0) : CV T ln (r + 1) (ln r) (ln r) = - DD T ln r := by
  have hk : ∀ a, a < r → ln a ≠ ln r := fun a ha e => by have := hi a r (by omega) (by omega) e; omega
  rw [CV_s hi (show r < r + 1 by omega), XC_s (show r < r + 1 by omega), (line_step T hT ln r hD hp _).2]
  unfold UU
  have : ∀ a, a < r → T (ln r) (ln a) * SS T ln r (fun i => - un (ln r) i) a = 0 := fun a ha => by
    have e : SS T ln r (fun i => - un (ln r) i) a = 0 := by
      unfold SS
      refine sm_zero (fun b hb => ?_)
      unfold un
      dsimp only
      rw [if_neg (hk b hb)]; simp
    rw [e, Int.mul_zero]
  rw [sm_zero this]
  unfold un
  dsimp only
  rw [if_pos rfl]; omega
theorem CV_piv {T : Nat → Nat → Int} {ln : Nat → Nat} {r : Nat} (hi : inj ln (r + 1)) : CV T ln r (ln r) (ln r) = DD T ln (r + 1) := by
  have hk : ∀ a, a < r → ln a ≠ ln r := fun a ha e => by have := hi a r (by omega) (by omega) e; omega
  rw [CV_u hk, XC_u hk, DD_succ]
/-! how great the cells are -/
theorem adj_abs {T : Nat → Nat → Int} {ln : Nat → Nat} {r : Nat} (hB : ∀ i j, (T i j).natAbs ≤ 60) (a b : Nat) : (adj r (sb T ln) a b).natAbs ≤ fac (r - 1) * 60 ^ (r - 1) := by
  unfold adj
  rw [Int.natAbs_mul, sg_abs, Nat.one_mul]
  exact det_abs (r - 1) _ 60 (fun i j _ _ => hB _ _)
theorem ab_tab : ∀ r, r < 6 → fac (r - 1) * 60 ^ (r - 1) ≤ 311040000 ∧ r * (fac (r - 1) * 60 ^ (r - 1) * 60) ≤ 100000000000 := by decide
theorem SS_abs {T : Nat → Nat → Int} {ln : Nat → Nat} {r : Nat} (hr : r < 6) (hB : ∀ i j, (T i j).natAbs ≤ 60) (a j : Nat) : (SS T ln r (fun i => T i j) a).natAbs ≤ 100000000000 := by
  refine Nat.le_trans (sm_abs r _ _ (fun b hb => ?_)) (ab_tab r hr).2
  rw [Int.natAbs_mul]
  exact Nat.mul_le_mul (adj_abs hB _ _) (hB _ _)
theorem CV_abs {T : Nat → Nat → Int} (hT : ∀ i j, T i j = T j i) (hB : ∀ i j, (T i j).natAbs ≤ 60) {ln : Nat → Nat} {r : Nat} (hr : r ≤ 4) (hi : inj ln r) (i j : Nat) : (CV T ln r i j).natAbs ≤ 100000000000 := by
  rcases spb_or ln r i with ⟨a, ha, rfl⟩ | h1
  · rcases spb_or ln r j with ⟨b, hb, rfl⟩ | h2
    · rw [CV_s hi ha, XC_s hb, SS_un hi hb, Int.natAbs_neg]
      have := adj_abs (ln := ln) (r := r) hB a b
      have := (ab_tab r (by omega)).1
      omega
    · rw [CV_s hi ha, XC_u h2]; exact SS_abs (by omega) hB a j
  · rcases spb_or ln r j with ⟨b, hb, rfl⟩ | h2
    · rw [CV_u h1, XC_s hb, UU_un hT hi hb h1]; exact SS_abs (by omega) hB b i
    · rw [CV_u h1, XC_u h2]; exact UUb hr hB i j
theorem CV_abs2 {T : Nat → Nat → Int} (hB : ∀ i j, (T i j).natAbs ≤ 60) {ln : Nat → Nat} {r : Nat} (hr : r ≤ 5) (hi : inj ln r) {a b : Nat} (ha : a < r) (hb : b < r) : (CV T ln r (ln a) (ln b)).natAbs ≤ 311040000 := by
  rw [CV_s hi ha, XC_s hb, SS_un hi hb, Int.natAbs_neg]
  exact Nat.le_trans (adj_abs (ln := ln) (r := r) hB a b) (ab_tab r (by omega)).1
