/-! bordered determinants and the adjugate -/
def bd (r : Nat) (M : Nat → Nat → Int) (x y : Nat → Int) (c : Int) : Nat → Nat → Int := fun i j => if i < r then (if j < r then M i j else x i) else (if j < r then y j else c)
def adj (r : Nat) (M : Nat → Nat → Int) (p i : Nat) : Int := sg (p + i) * det (r - 1) (dr i (dc p M))
theorem det_bd (r : Nat) (M : Nat → Nat → Int) (x y : Nat → Int) (c : Int) : det (r + 1) (bd r M x y c) = c * det r M - sm r (fun p => sm r (fun i => y p * adj r M p i * x i)) := by
  rw [det, sm]
  have e0 : sg (r + r) = 1 := by rw [sg_add, sg_sq]
  have e1 : bd r M x y c r r = c := by unfold bd; rw [if_neg (by omega), if_neg (by omega)]
  have e2 : det r (dc r (bd r M x y c)) = det r M := det_congr (fun i j hi hj => by
    show bd r M x y c i (up r j) = _
    rw [up_lt hj]; unfold bd; rw [if_pos hi, if_pos hj])
  rw [e0, e1, e2]
  have e3 : ∀ p, p < r → sg (r + p) * bd r M x y c r p * det r (dc p (bd r M x y c)) = - sm r (fun i => y p * adj r M p i * x i) := by
    intro p hp
    have f1 : bd r M x y c r p = y p := by unfold bd; rw [if_neg (by omega), if_pos hp]
    rw [f1]
    obtain ⟨t, ht⟩ : ∃ t, r = t + 1 := ⟨r - 1, by omega⟩
    subst ht
    rw [det_col t, ← sm_mul, ← sm_neg]
    refine sm_congr (fun i hi => ?_)
    have f2 : dc p (bd (t + 1) M x y c) i t = x i := by
      show bd (t + 1) M x y c i (up p t) = _
      rw [up_ge (by omega)]; unfold bd; rw [if_pos hi, if_neg (by omega)]
    have f3 : det t (dr i (dc p (bd (t + 1) M x y c))) = det t (dr i (dc p M)) := det_congr (fun a b ha hb => by
      show bd (t + 1) M x y c (up i a) (up p b) = M (up i a) (up p b)
      have h1 : up i a < t + 1 := by unfold up; split <;> omega
      have h2 : up p b < t + 1 := by unfold up; split <;> omega
      unfold bd; rw [if_pos h1, if_pos h2])
    rw [f2, f3]
    show _ = - (y p * (sg (p + i) * det (t + 1 - 1) (dr i (dc p M))) * x i)
    rw [Nat.add_sub_cancel]
    have f4 : sg (t + 1 + p) * sg (i + t) = - sg (p + i) := by
      rw [← sg_add, show t + 1 + p + (i + t) = (p + i) + 1 + (t + t) by omega, sg_add, sg_succ, sg_add t t, sg_sq]; omega
    generalize det t (dr i (dc p M)) = d
    have f5 : sg (t + 1 + p) * y p * (sg (i + t) * x i * d) = (sg (t + 1 + p) * sg (i + t)) * (y p * (x i * d)) := by grind
    rw [f5, f4]
    grind
  rw [sm_congr e3, sm_neg, Int.one_mul]
  omega
theorem bd_tr (r : Nat) (M : Nat → Nat → Int) (x y : Nat → Int) (c : Int) : tr (bd r M x y c) = bd r (tr M) y x c := by
  funext i j
  unfold tr bd
  by_cases h1 : i < r <;> by_cases h2 : j < r <;> simp [h1, h2]
/-- a line by the adjugate -/
theorem row_adj (r : Nat) (M : Nat → Nat → Int) {k : Nat} (hk : k < r) (x : Nat → Int) : sm r (fun p => sm r (fun i => M k p * adj r M p i * x i)) = x k * det r M := by
  have h0 : det (r + 1) (bd r M x (M k) (x k)) = 0 := by
    obtain ⟨d, hd⟩ : ∃ d, r = k + d + 1 := ⟨r - k - 1, by omega⟩
    refine det_rows d (r + 1) _ k (by omega) (fun j hj => ?_)
    rw [← hd]
    unfold bd
    rw [if_pos hk, if_neg (Nat.lt_irrefl r)]
  rw [det_bd] at h0
  omega
theorem col_adj (r : Nat) (M : Nat → Nat → Int) {k : Nat} (hk : k < r) (y : Nat → Int) : sm r (fun p => sm r (fun i => y p * adj r M p i * M i k)) = y k * det r M := by
  have h0 : det (r + 1) (bd r M (fun i => M i k) y (y k)) = 0 := by
    rw [← det_tr, bd_tr]
    obtain ⟨d, hd⟩ : ∃ d, r = k + d + 1 := ⟨r - k - 1, by omega⟩
    refine det_rows d (r + 1) _ k (by omega) (fun j hj => ?_)
    rw [← hd]
    unfold bd tr
    rw [if_pos hk, if_neg (Nat.lt_irrefl r)]
  rw [det_bd] at h0
  omega
def un (k : Nat) : Nat → Int := fun i => if i = k then 1 else 0
theorem sm_un {r k : Nat} (hk : k < r) (f : Nat → Int) : sm r (fun i => f i * un k i) = f k := by
  rw [sm_single hk (fun i hi hne => by unfold un; rw [if_neg hne]; simp)]
  unfold un; rw [if_pos rfl]; simp
theorem sm_un' {r k : Nat} (hk : k < r) (f : Nat → Int) : sm r (fun i => un k i * f i) = f k := by
  rw [sm_single hk (fun i hi hne => by unfold un; rw [if_neg hne]; simp)]
  unfold un; rw [if_pos rfl]; simp
theorem M_adj (r : Nat) (M : Nat → Nat → Int) {k i : Nat} (hk : k < r) (hi : i < r) : sm r (fun p => M k p * adj r M p i) = (if k = i then det r M else 0) := by
  have h := row_adj r M hk (un i)
  rw [sm_congr (fun p _ => sm_un (r := r) hi (fun i => M k p * adj r M p i))] at h
  rw [h]
  unfold un
  by_cases e : k = i
  · rw [if_pos e, if_pos e]; simp
  · rw [if_neg e, if_neg e]; simp
theorem adj_M (r : Nat) (M : Nat → Nat → Int) {k p : Nat} (hk : k < r) (hp : p < r) : sm r (fun i => adj r M p i * M i k) = (if p = k then det r M else 0) := by
  have h := col_adj r M hk (un p)
  have e1 : ∀ q, q < r → sm r (fun i => un p q * adj r M q i * M i k) = un p q * sm r (fun i => adj r M q i * M i k) := fun q _ => by
    rw [← sm_mul]; exact sm_congr (fun i _ => Int.mul_assoc _ _ _)
  rw [sm_congr e1, sm_un' hp (fun q => sm r (fun i => adj r M q i * M i k))] at h
  rw [h]
  unfold un
  by_cases e : p = k
  · rw [if_pos e.symm, if_pos e]; simp
  · rw [if_neg (fun z => e z.symm), if_neg e]; simp
theorem adj_sym (r : Nat) (M : Nat → Nat → Int) (hM : ∀ i j, i < r → j < r → M i j = M j i) {p i : Nat} (hp : p < r) (hi : i < r) : adj r M p i = adj r M i p := by
  unfold adj
  rw [Nat.add_comm p i]
  congr 1
  rw [← det_tr]
  refine det_congr (fun a b ha hb => ?_)
  show M (up i b) (up p a) = M (up p a) (up i b)
  exact hM _ _ (by unfold up; split <;> omega) (by unfold up; split <;> omega)
/-- only one solution -/
theorem solve (r : Nat) (M : Nat → Nat → Int) (z b : Nat → Int) (h : ∀ i, i < r → sm r (fun j => M i j * z j) = b i) {k : Nat} (hk : k < r) : det r M * z k = sm r (fun i => adj r M k i * b i) := by
  have h1 : sm r (fun i => adj r M k i * b i) = sm r (fun i => sm r (fun j => adj r M k i * (M i j * z j))) := sm_congr (fun i hi => by rw [sm_mul, h i hi])
  rw [h1, sm_swap]
  have h2 : ∀ j, j < r → sm r (fun i => adj r M k i * (M i j * z j)) = (if k = j then det r M else 0) * z j := fun j hj => by
    rw [← adj_M r M hj hk, ← sm_mulr]
    exact sm_congr (fun i _ => by rw [Int.mul_assoc])
  rw [sm_congr h2, sm_single hk (fun j _ hne => by rw [if_neg (fun z => hne z.symm)]; simp), if_pos rfl]
