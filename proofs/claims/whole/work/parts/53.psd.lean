/-! tables are never less than 0 -/
def mv (n : Nat) (T : Nat → Nat → Int) (v : Nat → Int) (i : Nat) : Int := sm n (fun j => T i j * v j)
def qf (n : Nat) (T : Nat → Nat → Int) (u v : Nat → Int) : Int := sm n (fun i => u i * mv n T v i)
theorem mv_lin (n : Nat) (T : Nat → Nat → Int) (a b : Int) (u v : Nat → Int) (i : Nat) : mv n T (fun j => a * u j + b * v j) i = a * mv n T u i + b * mv n T v i := by
  unfold mv
  rw [← sm_mul, ← sm_mul, ← sm_add]
  exact sm_congr (fun j _ => by grind)
theorem qf_linL (n : Nat) (T : Nat → Nat → Int) (a b : Int) (u v w : Nat → Int) : qf n T (fun j => a * u j + b * v j) w = a * qf n T u w + b * qf n T v w := by
  unfold qf
  rw [← sm_mul, ← sm_mul, ← sm_add]
  exact sm_congr (fun j _ => by grind)
theorem qf_linR (n : Nat) (T : Nat → Nat → Int) (a b : Int) (u v w : Nat → Int) : qf n T w (fun j => a * u j + b * v j) = a * qf n T w u + b * qf n T w v := by
  unfold qf
  rw [← sm_mul, ← sm_mul, ← sm_add]
  exact sm_congr (fun j _ => by rw [mv_lin]; grind)
theorem qf_sym (n : Nat) (T : Nat → Nat → Int) (hT : ∀ i j, T i j = T j i) (u v : Nat → Int) : qf n T u v = qf n T v u := by
  unfold qf mv
  rw [sm_congr (fun i _ => (sm_mul n (u i) (fun j => T i j * v j)).symm), sm_swap]
  refine sm_congr (fun j _ => ?_)
  rw [← sm_mul]
  exact sm_congr (fun i _ => by rw [hT i j]; grind)
def psd (n : Nat) (T : Nat → Nat → Int) : Prop := (∀ i j, T i j = T j i) ∧ ∀ v, 0 ≤ qf n T v v
theorem qf_un (n : Nat) (T : Nat → Nat → Int) {i : Nat} (hi : i < n) (v : Nat → Int) : qf n T (un i) v = mv n T v i := sm_un' hi (fun i => mv n T v i)
theorem psd_ker {n : Nat} {T : Nat → Nat → Int} (h : psd n T) {v : Nat → Int} (hv : qf n T v v = 0) {i : Nat} (hi : i < n) : mv n T v i = 0 := by
  have key : ∀ t : Int, 0 ≤ (qf n T (un i) (un i) + 1) * (t * mv n T v i) * 2 + t * t * qf n T (un i) (un i) := by
    intro t
    have h1 := h.2 (fun j => (qf n T (un i) (un i) + 1) * v j + t * un i j)
    rw [qf_linL, qf_linR, qf_linR, hv, qf_sym n T h.1 v (un i), qf_un n T hi v] at h1
    generalize qf n T (un i) (un i) = c at h1 ⊢
    generalize mv n T v i = b at h1 ⊢
    have e : (c + 1) * ((c + 1) * 0 + t * b) + t * ((c + 1) * b + t * c) = (c + 1) * (t * b) * 2 + t * t * c := by grind
    rw [e] at h1
    exact h1
  have hc := h.2 (un i)
  have k1 := key 1
  have k2 := key (-1)
  generalize qf n T (un i) (un i) = c at *
  generalize mv n T v i = b at *
  have e1 : (c + 1) * (1 * b) * 2 + 1 * 1 * c = 2 * ((c + 1) * b) + c := by grind
  have e2 : (c + 1) * (-1 * b) * 2 + -1 * -1 * c = c - 2 * ((c + 1) * b) := by grind
  rw [e1] at k1
  rw [e2] at k2
  rcases Int.lt_trichotomy b 0 with hb | hb | hb
  · have : (c + 1) * b ≤ (c + 1) * (-1) := Int.mul_le_mul_of_nonneg_left (by omega) (by omega)
    omega
  · exact hb
  · have : (c + 1) * 1 ≤ (c + 1) * b := Int.mul_le_mul_of_nonneg_left (by omega) (by omega)
    omega
/-- a vector that is put together of places ln a, and one more -/
def pv (r : Nat) (ln : Nat → Nat) (c : Nat → Int) (k : Nat) (d : Int) : Nat → Int := fun j => sm r (fun a => if ln a = j then c a else 0) + (if j = k then d else 0)
theorem sm_pv {n r : Nat} {ln : Nat → Nat} (hl : ∀ a, a < r → ln a < n) (c : Nat → Int) {k : Nat} (hk : k < n) (d : Int) (f : Nat → Int) : sm n (fun j => f j * pv r ln c k d j) = sm r (fun a => f (ln a) * c a) + f k * d := by
  have e1 : ∀ j, j < n → f j * pv r ln c k d j = sm r (fun a => f j * (if ln a = j then c a else 0)) + f j * (if j = k then d else 0) := fun j _ => by
    unfold pv; rw [Int.mul_add, ← sm_mul]
  rw [sm_congr e1, sm_add, sm_swap]
  congr 1
  · refine sm_congr (fun a ha => ?_)
    rw [sm_single (hl a ha) (fun j _ hne => by rw [if_neg (fun z => hne z.symm), Int.mul_zero]), if_pos rfl]
  · rw [sm_single hk (fun j _ hne => by rw [if_neg hne, Int.mul_zero]), if_pos rfl]
theorem pv_k {r : Nat} {ln : Nat → Nat} {c : Nat → Int} {k : Nat} {d : Int} (h : ∀ a, a < r → ln a ≠ k) : pv r ln c k d k = d := by
  unfold pv
  rw [sm_zero (fun a ha => if_neg (h a ha)), if_pos rfl, Int.zero_add]
theorem pv_o {r : Nat} {ln : Nat → Nat} {c : Nat → Int} {k : Nat} {d : Int} {j : Nat} (h : ∀ a, a < r → ln a ≠ j) (hj : j ≠ k) : pv r ln c k d j = 0 := by
  unfold pv
  rw [sm_zero (fun a ha => if_neg (h a ha)), if_neg hj, Int.zero_add]
/-- the vector of a line k by the lines that were found -/
def kv (T : Nat → Nat → Int) (ln : Nat → Nat) (r k : Nat) : Nat → Int := pv r ln (fun a => - SS T ln r (fun i => T i k) a) k (DD T ln r)
theorem mv_kv {n : Nat} (T : Nat → Nat → Int) {ln : Nat → Nat} {r k : Nat} (hl : ∀ a, a < r → ln a < n) (hk : k < n) (i : Nat) : mv n T (kv T ln r k) i = UU T ln r (fun j => T j k) i := by
  unfold mv kv
  rw [sm_pv hl _ hk _ (fun j => T i j)]
  unfold UU
  rw [sm_congr (fun a _ => show T i (ln a) * - SS T ln r (fun i => T i k) a = - (T i (ln a) * SS T ln r (fun i => T i k) a) by rw [Int.mul_neg]), sm_neg]
  dsimp only
  omega
theorem qf_kv {n : Nat} (T : Nat → Nat → Int) {ln : Nat → Nat} {r k : Nat} (hl : ∀ a, a < r → ln a < n) (hk : k < n) : qf n T (kv T ln r k) (kv T ln r k) = DD T ln r * UU T ln r (fun j => T j k) k := by
  have e : qf n T (kv T ln r k) (kv T ln r k) = sm n (fun j => UU T ln r (fun i => T i k) j * kv T ln r k j) := sm_congr (fun j _ => by rw [mv_kv T hl hk, Int.mul_comm])
  rw [e]
  unfold kv
  rw [sm_pv hl _ hk _ (fun j => UU T ln r (fun i => T i k) j)]
  rw [sm_zero (fun a ha => by rw [UU_line T ln r _ ha, Int.zero_mul]), Int.zero_add, Int.mul_comm]
/-- the next pivot is never less than 0 -/
theorem piv_nonneg {n : Nat} {T : Nat → Nat → Int} (h : psd n T) {ln : Nat → Nat} {r k : Nat} (hl : ∀ a, a < r → ln a < n) (hk : k < n) (hD : 0 < DD T ln r) : 0 ≤ UU T ln r (fun j => T j k) k := by
  have h1 := h.2 (kv T ln r k)
  rw [qf_kv T hl hk] at h1
  rcases Int.lt_or_le (UU T ln r (fun j => T j k) k) 0 with h2 | h2
  · have h3 : DD T ln r * UU T ln r (fun j => T j k) k < 0 := Int.mul_neg_of_pos_of_neg hD h2
    omega
  · exact h2
/-- where it is 0 the line depends on those ahead -/
theorem piv_zero {n : Nat} {T : Nat → Nat → Int} (h : psd n T) {ln : Nat → Nat} {r k : Nat} (hl : ∀ a, a < r → ln a < n) (hk : k < n) (h0 : UU T ln r (fun j => T j k) k = 0) {i : Nat} (hi : i < n) : UU T ln r (fun j => T j k) i = 0 := by
  rw [← mv_kv T hl hk]
  exact psd_ker h (by rw [qf_kv T hl hk, h0, Int.mul_zero]) hi
/-- a vector that the matrix sends to 0 makes the determinant 0 -/
theorem det_ker {n : Nat} {T : Nat → Nat → Int} {v : Nat → Int} (h : ∀ i, i < n → mv n T v i = 0) {k : Nat} (hk : k < n) (hv : v k ≠ 0) : det n T = 0 := by
  have h1 := solve n T v (fun _ => 0) h hk
  rw [sm_zero (fun i _ => Int.mul_zero _)] at h1
  rcases Int.mul_eq_zero.mp h1 with h2 | h2
  · exact h2
  · exact absurd h2 hv
/-- how great a determinant may be -/
def fac : Nat → Nat
  | 0 => 1
  | n + 1 => (n + 1) * fac n
theorem sm_abs : ∀ (n : Nat) (f : Nat → Int) (c : Nat), (∀ i, i < n → (f i).natAbs ≤ c) → (sm n f).natAbs ≤ n * c
  | 0, _, _, _ => by simp [sm]
  | n + 1, f, c, h => by
    rw [sm, Nat.succ_mul]
    have h1 := sm_abs n f c (fun i hi => h i (by omega))
    have h2 := h n (by omega)
    have h3 := Int.natAbs_add_le (sm n f) (f n)
    omega
theorem sg_abs (n : Nat) : (sg n).natAbs = 1 := by unfold sg; split <;> rfl
theorem det_abs : ∀ (r : Nat) (A : Nat → Nat → Int) (B : Nat), (∀ i j, i < r → j < r → (A i j).natAbs ≤ B) → (det r A).natAbs ≤ fac r * B ^ r
  | 0, _, _, _ => by simp [det, fac]
  | r + 1, A, B, h => by
    rw [det]
    have h1 := sm_abs (r + 1) (fun p => sg (r + p) * A r p * det r (dc p A)) (B * (fac r * B ^ r)) (fun p hp => by
      rw [Int.natAbs_mul, Int.natAbs_mul, sg_abs, Nat.one_mul]
      exact Nat.mul_le_mul (h r p (by omega) hp) (det_abs r (dc p A) B (fun i j hi hj => h i (up p j) (by omega) (by unfold up; split <;> omega))))
    refine Nat.le_trans h1 (Nat.le_of_eq ?_)
    rw [fac, Nat.pow_succ]
    generalize fac r = f
    generalize B ^ r = g
    grind
