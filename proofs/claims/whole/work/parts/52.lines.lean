/-! lines that were found (ln 0 .. ln (r - 1)) of a matrix T; columns X -/
def sb (T : Nat → Nat → Int) (ln : Nat → Nat) : Nat → Nat → Int := fun a b => T (ln a) (ln b)
def DD (T : Nat → Nat → Int) (ln : Nat → Nat) (r : Nat) : Int := det r (sb T ln)
def SS (T : Nat → Nat → Int) (ln : Nat → Nat) (r : Nat) (X : Nat → Int) (a : Nat) : Int := sm r (fun b => adj r (sb T ln) a b * X (ln b))
def UU (T : Nat → Nat → Int) (ln : Nat → Nat) (r : Nat) (X : Nat → Int) (i : Nat) : Int := X i * DD T ln r - sm r (fun a => T i (ln a) * SS T ln r X a)
theorem yAx (T : Nat → Nat → Int) (ln : Nat → Nat) (r : Nat) (X Y : Nat → Int) : sm r (fun p => sm r (fun i => Y p * adj r (sb T ln) p i * X (ln i))) = sm r (fun p => Y p * SS T ln r X p) :=
  sm_congr (fun p _ => by unfold SS; rw [← sm_mul]; exact sm_congr (fun i _ => Int.mul_assoc _ _ _))
theorem UU_det (T : Nat → Nat → Int) (ln : Nat → Nat) (r : Nat) (X : Nat → Int) (i : Nat) : det (r + 1) (bd r (sb T ln) (fun a => X (ln a)) (fun a => T i (ln a)) (X i)) = UU T ln r X i := by
  rw [det_bd, yAx T ln r X (fun a => T i (ln a))]; rfl
theorem DD_succ (T : Nat → Nat → Int) (ln : Nat → Nat) (r : Nat) : DD T ln (r + 1) = UU T ln r (fun i => T i (ln r)) (ln r) := by
  rw [← UU_det]
  unfold DD
  refine det_congr (fun i j hi hj => ?_)
  unfold bd sb
  by_cases h1 : i < r
  · by_cases h2 : j < r
    · rw [if_pos h1, if_pos h2]
    · have e : j = r := by omega
      subst e; rw [if_pos h1, if_neg h2]
  · have e : i = r := by omega
    subst e
    by_cases h2 : j < i
    · rw [if_neg h1, if_pos h2]
    · have e : j = i := by omega
      subst e; rw [if_neg h1, if_neg h2]
theorem M_SS (T : Nat → Nat → Int) (ln : Nat → Nat) (r : Nat) (X : Nat → Int) {c : Nat} (hc : c < r) : sm r (fun a => T (ln c) (ln a) * SS T ln r X a) = X (ln c) * DD T ln r := by
  have h := row_adj r (sb T ln) hc (fun a => X (ln a))
  rw [yAx T ln r X (sb T ln c)] at h
  exact h
theorem UU_line (T : Nat → Nat → Int) (ln : Nat → Nat) (r : Nat) (X : Nat → Int) {c : Nat} (hc : c < r) : UU T ln r X (ln c) = 0 := by
  unfold UU
  rw [M_SS T ln r X hc]; omega
/-- one line more -/
theorem line_step (T : Nat → Nat → Int) (hT : ∀ i j, T i j = T j i) (ln : Nat → Nat) (r : Nat) (hD : DD T ln r ≠ 0) (hp : DD T ln (r + 1) ≠ 0) (X : Nat → Int) :
    (∀ a, a < r → DD T ln r * SS T ln (r + 1) X a = SS T ln r X a * DD T ln (r + 1) - SS T ln r (fun i => T i (ln r)) a * UU T ln r X (ln r)) ∧ SS T ln (r + 1) X r = UU T ln r X (ln r) := by
  have hz : ∀ a, a < r + 1 → DD T ln (r + 1) * (DD T ln r * SS T ln (r + 1) X a - (if a < r then SS T ln r X a * DD T ln (r + 1) - SS T ln r (fun i => T i (ln r)) a * UU T ln r X (ln r) else DD T ln r * UU T ln r X (ln r))) = 0 := by
    intro a ha
    have h := solve (r + 1) (sb T ln) (fun a => DD T ln r * SS T ln (r + 1) X a - (if a < r then SS T ln r X a * DD T ln (r + 1) - SS T ln r (fun i => T i (ln r)) a * UU T ln r X (ln r) else DD T ln r * UU T ln r X (ln r))) (fun _ => 0) (fun c hc => ?_) ha
    · unfold DD at h ⊢
      rw [h]
      exact sm_zero (fun i _ => Int.mul_zero _)
    · have e1 : sm (r + 1) (fun j => sb T ln c j * (DD T ln r * SS T ln (r + 1) X j - (if j < r then SS T ln r X j * DD T ln (r + 1) - SS T ln r (fun i => T i (ln r)) j * UU T ln r X (ln r) else DD T ln r * UU T ln r X (ln r)))) = DD T ln r * sm (r + 1) (fun j => T (ln c) (ln j) * SS T ln (r + 1) X j) - sm (r + 1) (fun j => T (ln c) (ln j) * (if j < r then SS T ln r X j * DD T ln (r + 1) - SS T ln r (fun i => T i (ln r)) j * UU T ln r X (ln r) else DD T ln r * UU T ln r X (ln r))) := by
        rw [← sm_mul, ← sm_sub]
        refine sm_congr (fun j _ => ?_)
        show T (ln c) (ln j) * _ = _
        generalize (if j < r then _ else _ : Int) = w
        grind
      rw [e1, M_SS T ln (r + 1) X hc, sm, if_neg (Nat.lt_irrefl r)]
      have e2 : sm r (fun j => T (ln c) (ln j) * (if j < r then SS T ln r X j * DD T ln (r + 1) - SS T ln r (fun i => T i (ln r)) j * UU T ln r X (ln r) else DD T ln r * UU T ln r X (ln r))) = sm r (fun j => T (ln c) (ln j) * SS T ln r X j) * DD T ln (r + 1) - sm r (fun j => T (ln c) (ln j) * SS T ln r (fun i => T i (ln r)) j) * UU T ln r X (ln r) := by
        rw [← sm_mulr, ← sm_mulr, ← sm_sub]
        refine sm_congr (fun j hj => ?_)
        rw [if_pos hj]
        grind
      rw [e2]
      by_cases hcr : c < r
      · rw [M_SS T ln r X hcr, M_SS T ln r (fun i => T i (ln r)) hcr]
        generalize UU T ln r X (ln r) = u
        generalize DD T ln (r + 1) = p
        generalize DD T ln r = d
        show d * (X (ln c) * p) - (X (ln c) * d * p - T (ln c) (ln r) * d * u + T (ln c) (ln r) * (d * u)) = 0
        grind
      · have e : c = r := by omega
        subst e
        have f1 : sm c (fun j => T (ln c) (ln j) * SS T ln c X j) = X (ln c) * DD T ln c - UU T ln c X (ln c) := by unfold UU; omega
        have f2 : sm c (fun j => T (ln c) (ln j) * SS T ln c (fun i => T i (ln c)) j) = T (ln c) (ln c) * DD T ln c - DD T ln (c + 1) := by rw [DD_succ]; unfold UU; dsimp only; omega
        rw [f1, f2]
        generalize UU T ln c X (ln c) = u
        generalize DD T ln (c + 1) = p
        generalize DD T ln c = d
        grind
  refine ⟨fun a ha => ?_, ?_⟩
  · have h := hz a (by omega)
    rw [if_pos ha] at h
    rcases Int.mul_eq_zero.mp h with h1 | h1
    · exact absurd h1 hp
    · omega
  · have h := hz r (by omega)
    rw [if_neg (Nat.lt_irrefl r)] at h
    rcases Int.mul_eq_zero.mp h with h1 | h1
    · exact absurd h1 hp
    · have h2 : DD T ln r * (SS T ln (r + 1) X r - UU T ln r X (ln r)) = 0 := by rw [Int.mul_sub]; exact h1
      rcases Int.mul_eq_zero.mp h2 with h3 | h3
      · exact absurd h3 hD
      · omega
theorem UU_step (T : Nat → Nat → Int) (hT : ∀ i j, T i j = T j i) (ln : Nat → Nat) (r : Nat) (hD : DD T ln r ≠ 0) (hp : DD T ln (r + 1) ≠ 0) (X : Nat → Int) (i : Nat) :
    DD T ln r * UU T ln (r + 1) X i = DD T ln (r + 1) * UU T ln r X i - UU T ln r X (ln r) * UU T ln r (fun j => T j (ln r)) i := by
  obtain ⟨h1, h2⟩ := line_step T hT ln r hD hp X
  have e : DD T ln r * UU T ln (r + 1) X i = DD T ln r * (X i * DD T ln (r + 1)) - (sm r (fun a => T i (ln a) * (DD T ln r * SS T ln (r + 1) X a)) + DD T ln r * (T i (ln r) * SS T ln (r + 1) X r)) := by
    have e1 : sm r (fun a => T i (ln a) * (DD T ln r * SS T ln (r + 1) X a)) = DD T ln r * sm r (fun a => T i (ln a) * SS T ln (r + 1) X a) := by
      rw [← sm_mul]; exact sm_congr (fun a _ => by grind)
    rw [e1]
    show DD T ln r * (X i * DD T ln (r + 1) - (sm r (fun a => T i (ln a) * SS T ln (r + 1) X a) + T i (ln r) * SS T ln (r + 1) X r)) = _
    grind
  rw [e, h2]
  have e2 : sm r (fun a => T i (ln a) * (DD T ln r * SS T ln (r + 1) X a)) = sm r (fun a => T i (ln a) * SS T ln r X a) * DD T ln (r + 1) - sm r (fun a => T i (ln a) * SS T ln r (fun j => T j (ln r)) a) * UU T ln r X (ln r) := by
    rw [← sm_mulr, ← sm_mulr, ← sm_sub]
    exact sm_congr (fun a ha => by rw [h1 a ha]; grind)
  rw [e2]
  have f1 : sm r (fun a => T i (ln a) * SS T ln r X a) = X i * DD T ln r - UU T ln r X i := by unfold UU; omega
  have f2 : sm r (fun a => T i (ln a) * SS T ln r (fun j => T j (ln r)) a) = T i (ln r) * DD T ln r - UU T ln r (fun j => T j (ln r)) i := by unfold UU; dsimp only; omega
  rw [f1, f2]
  generalize UU T ln r X (ln r) = u
  generalize UU T ln r X i = w
  generalize UU T ln r (fun j => T j (ln r)) i = v
  generalize DD T ln (r + 1) = p
  generalize DD T ln r = d
  grind
