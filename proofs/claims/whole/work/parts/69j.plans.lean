/-! PLANS: codes, counts, flips -/
def pdx (x : Nat → Int) : Nat → Int
  | 0 => 1
  | n + 1 => pdx x n * x n
theorem det_row (x : Nat → Int) : ∀ (r : Nat) (A : Nat → Nat → Int), det r (fun i j => x i * A i j) = pdx x r * det r A
  | 0, _ => rfl
  | r + 1, A => by
    rw [det, det, pdx, ← sm_mul]
    refine sm_congr (fun p _ => ?_)
    have e : dc p (fun i j => x i * A i j) = fun i j => x i * dc p A i j := rfl
    rw [e, det_row x r (dc p A)]
    generalize det r (dc p A) = d
    generalize pdx x r = q
    generalize sg (r + p) = s
    grind
theorem pdx_sq {x : Nat → Int} (h : ∀ i, x i * x i = 1) : ∀ n, pdx x n * pdx x n = 1
  | 0 => rfl
  | n + 1 => by
    have ih := pdx_sq h n
    have h1 := h n
    rw [pdx]
    generalize pdx x n = q at *
    generalize x n = y at *
    calc q * y * (q * y) = (q * q) * (y * y) := by grind
      _ = 1 := by rw [ih, h1]; rfl
theorem det_flip {x : Nat → Int} (h : ∀ i, x i * x i = 1) (r : Nat) (A : Nat → Nat → Int) : det r (fun i j => x i * (x j * A i j)) = det r A := by
  rw [det_row x r (fun i j => x j * A i j), ← det_tr r (fun i j => x j * A i j)]
  have e : tr (fun i j => x j * A i j) = fun i j => x i * tr A i j := rfl
  rw [e, det_row x r (tr A), det_tr, ← Int.mul_assoc, pdx_sq h, Int.one_mul]
theorem ch_flip {t : Nat} (ht : t < 64) (s c : Nat) : ch t (s ^^^ c) = ch t s * sg (pc (t &&& c)) := by
  unfold ch
  have e : t &&& (s ^^^ c ^^^ 63) = (t &&& (s ^^^ 63)) ^^^ (t &&& c) := by
    rw [xor_r, Nat.and_comm, and_xor, Nat.and_comm _ t, Nat.and_comm c t]
  rw [e, sgx_tab _ (and_lt64 _ ht) _ (and_lt64 _ ht)]
theorem xor_ge {K s c : Nat} (hs : 2 ^ K ≤ s) (hc : c < 2 ^ K) : 2 ^ K ≤ s ^^^ c := by
  rcases Nat.lt_or_ge (s ^^^ c) (2 ^ K) with h | h
  · have := xor_lt2 h hc
    rw [xor_xor] at this; omega
  · exact h
def flp (u : Nat → Nat) (c : Nat) : Nat → Nat := fun s => u (s ^^^ c)
theorem WW_flip {K n : Nat} {te : Nat → Nat} (hte : ∀ i, i < n → te i < 64) (u : Nat → Nat) {c : Nat} (hc : c < 2 ^ K) : WW K n te (flp u c) = WW K n te u := by
  unfold WW
  rw [← det_flip (x := fun i => sg (pc (te i &&& c))) (fun i => sg_sq _) n (tbp n te id u (2 ^ K))]
  refine det_congr (fun i j hi hj => ?_)
  unfold tbp
  rw [if_pos ⟨hi, hj⟩, if_pos ⟨hi, hj⟩]
  rw [← sm_invol (τ := fun s => s ^^^ c) (fun s hs => xor_lt2 hs hc) (fun s _ => xor_xor s c), ← sm_mul, ← sm_mul]
  refine sm_congr (fun s _ => ?_)
  show (u (s ^^^ c ^^^ c) : Int) * ch (te i) (s ^^^ c) * ch (te j) (s ^^^ c) = _
  rw [xor_xor, ch_flip (hte i hi), ch_flip (hte j hj)]
  show (u s : Int) * (ch (te i) s * sg (pc (te i &&& c))) * (ch (te j) s * sg (pc (te j &&& c))) = sg (pc (te i &&& c)) * (sg (pc (te j &&& c)) * ((u s : Int) * ch (te i) s * ch (te j) s))
  generalize sg (pc (te i &&& c)) = a
  generalize sg (pc (te j &&& c)) = b
  generalize ch (te i) s = p
  generalize ch (te j) s = q
  grind
theorem WW_cong {K n : Nat} {te u v : Nat → Nat} (h : ∀ s, s < 2 ^ K → u s = v s) : WW K n te u = WW K n te v := det_congr (fun i j hi hj => by
  unfold tbp
  rw [if_pos ⟨hi, hj⟩, if_pos ⟨hi, hj⟩]
  exact sm_congr (fun s hs => by show (u s : Int) * _ * _ = (v s : Int) * _ * _; rw [h s hs]))
/-- a PLAN as a number -/
def enc (u : Nat → Nat) : Nat → Nat
  | 0 => 0
  | s + 1 => enc u s + u s * 10 ^ s
theorem enc_lt {u : Nat → Nat} (h : ∀ s, u s ≤ 9) : ∀ S, enc u S < 10 ^ S
  | 0 => Nat.one_pos
  | S + 1 => by
    have ih := enc_lt h S
    have h1 : u S * 10 ^ S ≤ 9 * 10 ^ S := Nat.mul_le_mul_right _ (h S)
    rw [enc, Nat.pow_succ]; omega
theorem enc_dg {u : Nat → Nat} (h : ∀ s, u s ≤ 9) : ∀ {S s : Nat}, s < S → enc u S / 10 ^ s % 10 = u s
  | 0, _, hs => absurd hs (Nat.not_lt_zero _)
  | S + 1, s, hs => by
    rw [enc]
    have hl := enc_lt h S
    have hp : 0 < 10 ^ S := Nat.pow_pos (by omega)
    by_cases e : s = S
    · subst e
      rw [Nat.add_mul_div_right _ _ hp, Nat.div_eq_of_lt hl]
      have := h s; omega
    · have ih := enc_dg h (S := S) (s := s) (by omega)
      have hq : 10 ^ S = 10 ^ s * (10 * 10 ^ (S - s - 1)) := by
        rw [← Nat.pow_succ', ← Nat.pow_add]; congr 1; omega
      have hp2 : 0 < 10 ^ s := Nat.pow_pos (by omega)
      rw [hq, show u S * (10 ^ s * (10 * 10 ^ (S - s - 1))) = 10 ^ s * (10 * (u S * 10 ^ (S - s - 1))) by
        rw [← Nat.mul_assoc, Nat.mul_comm (u S), Nat.mul_assoc, ← Nat.mul_assoc (u S), Nat.mul_comm (u S) 10, Nat.mul_assoc]]
      rw [Nat.add_mul_div_left _ _ hp2, Nat.add_mul_mod_self_left]; exact ih
theorem dgp_enc {S : Nat} {u : Nat → Nat} (h : ∀ s, u s ≤ 9) (hz : ∀ s, S ≤ s → u s = 0) : dgp S (enc u S) = u := by
  funext s
  unfold dgp
  by_cases c : s < S
  · rw [if_pos c, enc_dg h c]
  · rw [if_neg c, hz s (by omega)]
theorem dgp_le (S x s : Nat) : dgp S x s ≤ 9 := by unfold dgp; split <;> omega
theorem dgp_hi {S x s : Nat} (h : S ≤ s) : dgp S x s = 0 := by unfold dgp; rw [if_neg (by omega)]
theorem dgp_top {S d y : Nat} (hy : y < 10 ^ S) (hd : d < 10) : dgp (S + 1) (d * 10 ^ S + y) S = d ∧ ∀ s, s < S → dgp (S + 1) (d * 10 ^ S + y) s = dgp S y s := by
  have hp : 0 < 10 ^ S := Nat.pow_pos (by omega)
  refine ⟨?_, fun s hs => ?_⟩
  · unfold dgp
    rw [if_pos (by omega), Nat.add_comm, Nat.add_mul_div_right _ _ hp, Nat.div_eq_of_lt hy]; omega
  · unfold dgp
    rw [if_pos (by omega), if_pos hs]
    have hq : 10 ^ S = 10 ^ s * (10 * 10 ^ (S - s - 1)) := by
      rw [← Nat.pow_succ', ← Nat.pow_add]; congr 1; omega
    have hp2 : 0 < 10 ^ s := Nat.pow_pos (by omega)
    rw [hq, show d * (10 ^ s * (10 * 10 ^ (S - s - 1))) = 10 ^ s * (10 * (d * 10 ^ (S - s - 1))) by
      rw [← Nat.mul_assoc, Nat.mul_comm d, Nat.mul_assoc, ← Nat.mul_assoc d, Nat.mul_comm d 10, Nat.mul_assoc], Nat.add_comm]
    rw [Nat.add_mul_div_left _ _ hp2, Nat.add_mul_mod_self_left]
theorem enc_cong {u v : Nat → Nat} : ∀ {S : Nat}, (∀ s, s < S → u s = v s) → enc u S = enc v S
  | 0, _ => rfl
  | S + 1, h => by rw [enc, enc, enc_cong (S := S) (fun s hs => h s (by omega)), h S (by omega)]
theorem enc_dgp : ∀ {S x : Nat}, x < 10 ^ S → enc (dgp S x) S = x
  | 0, x, h => by have : x = 0 := by have : x < 1 := h; omega
                  subst this; rfl
  | S + 1, x, h => by
    have hp : 0 < 10 ^ S := Nat.pow_pos (by omega)
    rw [Nat.pow_succ] at h
    have hy : x % 10 ^ S < 10 ^ S := Nat.mod_lt _ hp
    have hd : x / 10 ^ S < 10 := Nat.div_lt_of_lt_mul (by rw [Nat.mul_comm] at h; omega)
    have ex : x / 10 ^ S * 10 ^ S + x % 10 ^ S = x := by rw [Nat.mul_comm]; exact Nat.div_add_mod x (10 ^ S)
    obtain ⟨t1, t2⟩ := dgp_top hy hd
    rw [ex] at t1 t2
    rw [enc, t1, enc_cong t2, enc_dgp hy]; omega
theorem sm_blocks (N : Nat) (f : Nat → Int) : ∀ b, sm (b * N) f = sm b (fun d => sm N (fun y => f (d * N + y)))
  | 0 => by rw [Nat.zero_mul]; rfl
  | b + 1 => by rw [Nat.add_mul, Nat.one_mul, sm_split, sm_blocks N f b, sm]
/-- how many PLANS there are -/
noncomputable def cvn (s r : Nat) : Int := cnt (10 ^ s) (fun x => tot (dgp s x) s = (r : Int))
theorem cnt_cong {N : Nat} {P Q : Nat → Prop} (h : ∀ x, x < N → (P x ↔ Q x)) : cnt N P = cnt N Q := sm_congr (fun x hx => ind_c (h x hx))
theorem cnt_none {N : Nat} {P : Nat → Prop} (h : ∀ x, x < N → ¬ P x) : cnt N P = 0 := sm_zero (fun x hx => ind_f (h x hx))
theorem cnt_nonneg (N : Nat) (P : Nat → Prop) : 0 ≤ cnt N P := sm_nonneg _ _ (fun x _ => (ind_01 _).1)
theorem cnt_mono {N : Nat} {P Q : Nat → Prop} (h : ∀ x, x < N → P x → Q x) : cnt N P ≤ cnt N Q := by
  have : 0 ≤ sm N (fun x => ind (Q x) - ind (P x)) := sm_nonneg _ _ (fun x hx => by
    by_cases p : P x
    · rw [ind_t p, ind_t (h x hx p)]; decide
    · rw [ind_f p]; have := (ind_01 (Q x)).1; omega)
  rw [sm_sub] at this
  unfold cnt; omega
theorem cnt_pos {N : Nat} {P : Nat → Prop} {x : Nat} (hx : x < N) (h : P x) : 1 ≤ cnt N P := by
  have := sm_ge (n := N) (f := fun x => ind (P x)) (fun i _ => (ind_01 _).1) hx
  rw [ind_t h] at this
  exact this
theorem cnt_add1 {N : Nat} {P Q : Nat → Prop} {x0 : Nat} (hx : x0 < N) (h1 : ¬ P x0) (h2 : Q x0) (h : ∀ x, x < N → x ≠ x0 → (P x ↔ Q x)) : cnt N Q = cnt N P + 1 := by
  have e : sm N (fun x => ind (Q x) - ind (P x)) = 1 := by
    rw [sm_single hx (fun x hx2 hne => by rw [ind_c (h x hx2 hne)]; omega), ind_t h2, ind_f h1]; rfl
  rw [sm_sub] at e
  unfold cnt; omega
theorem cvn_0 (r : Nat) : cvn 0 r = if r = 0 then 1 else 0 := by
  unfold cvn cnt
  show sm 1 (fun x => ind (tot (dgp 0 x) 0 = (r : Int))) = _
  by_cases c : r = 0
  · subst c
    rw [if_pos rfl]
    show 0 + ind _ = 1
    rw [ind_t (show tot (dgp 0 0) 0 = ((0 : Nat) : Int) from rfl)]; rfl
  · rw [if_neg c]
    show 0 + ind _ = 0
    rw [ind_f (show ¬ tot (dgp 0 0) 0 = (r : Int) from fun z => by
      have : (0 : Int) = (r : Int) := z
      omega)]; rfl
theorem cvn_s (s r : Nat) : cvn (s + 1) r = sm 10 (fun d => if d ≤ r then cvn s (r - d) else 0) := by
  unfold cvn cnt
  rw [Nat.pow_succ, Nat.mul_comm, sm_blocks]
  refine sm_congr (fun d hd => ?_)
  have et : ∀ y, y < 10 ^ s → tot (dgp (s + 1) (d * 10 ^ s + y)) (s + 1) = tot (dgp s y) s + (d : Int) := fun y hy => by
    obtain ⟨t1, t2⟩ := dgp_top hy hd
    have es : tot (dgp (s + 1) (d * 10 ^ s + y)) (s + 1) = tot (dgp (s + 1) (d * 10 ^ s + y)) s + ((dgp (s + 1) (d * 10 ^ s + y) s : Nat) : Int) := rfl
    rw [es, t1, tot_congr t2]
  by_cases c : d ≤ r
  · rw [if_pos c]
    refine sm_congr (fun y hy => ind_c ?_)
    dsimp only; rw [et y hy]; omega
  · rw [if_neg c]
    refine sm_zero (fun y hy => ind_f ?_)
    dsimp only; rw [et y hy]
    have := tot_nonneg (dgp s y) s
    omega
theorem wys_min (s r : Nat) (h : ∀ q, (wy s q : Int) = min 20001 (cvn s q)) : ∀ k, min (20001 : Int) (wys (wy s) r k : Int) = min 20001 (sm k (fun d => if d ≤ r then cvn s (r - d) else 0))
  | 0 => rfl
  | k + 1 => by
    have ih := wys_min s r h k
    rw [wys, sm]
    have h0 : 0 ≤ sm k (fun d => if d ≤ r then cvn s (r - d) else 0) := sm_nonneg _ _ (fun d _ => by
      split
      · exact cnt_nonneg _ _
      · exact Int.le_refl _)
    by_cases c : k ≤ r
    · rw [if_pos c, if_pos c]
      have h1 := h (r - k)
      have h2 : 0 ≤ cvn s (r - k) := cnt_nonneg _ _
      generalize cvn s (r - k) = q at *
      generalize wy s (r - k) = w at *
      generalize wys (wy s) r k = a at *
      generalize sm k _ = b at *
      omega
    · rw [if_neg c, if_neg c]
      simpa using ih
theorem wy_cvn : ∀ s r, (wy s r : Int) = min 20001 (cvn s r)
  | 0, r => by
    rw [wy, cvn_0]; split <;> rfl
  | s + 1, r => by
    have := wys_min s r (wy_cvn s) 10
    rw [wy, cvn_s, ← this]
    omega
theorem vpl_cnt {S N : Nat} : cnt (10 ^ S) (fun x => vpl S N (dgp S x)) = cvn S N := cnt_cong (fun x _ => ⟨fun h => h.2.2, fun h => ⟨fun s => dgp_le S x s, fun s hs => dgp_hi hs, h⟩⟩)
theorem vpl_few {S N : Nat} (h : wy S N ≤ 20000) (P : Nat → Prop) : cnt (10 ^ S) (fun x => vpl S N (dgp S x) ∧ P x) ≤ 20000 := by
  have h1 := wy_cvn S N
  have h2 := cnt_mono (N := 10 ^ S) (P := fun x => vpl S N (dgp S x) ∧ P x) (Q := fun x => vpl S N (dgp S x)) (fun x _ hx => hx.1)
  rw [vpl_cnt] at h2
  omega
theorem vpl_ex {S N : Nat} (h : 0 < wy S N) : ∃ u, vpl S N u := by
  have h1 := wy_cvn S N
  have h2 : cvn S N ≠ 0 := by omega
  unfold cvn cnt at h2
  obtain ⟨x, hx, hne⟩ := sm_pos_ex (fun i _ => (ind_01 _).1) h2
  refine ⟨dgp S x, fun s => dgp_le S x s, fun s hs => dgp_hi hs, ?_⟩
  exact Classical.byContradiction (fun z => hne (ind_f z))
theorem vpl_wy {S N : Nat} {u : Nat → Nat} (h : vpl S N u) : 0 < wy S N := by
  have h1 := wy_cvn S N
  have h2 : 1 ≤ cvn S N := cnt_pos (enc_lt h.1 S) (by rw [dgp_enc h.1 h.2.1]; exact h.2.2)
  omega
/-- flips of PLANS -/
theorem vpl_flp {K N : Nat} {u : Nat → Nat} (h : vpl (2 ^ K) N u) {c : Nat} (hc : c < 2 ^ K) : vpl (2 ^ K) N (flp u c) := by
  refine ⟨fun s => h.1 _, fun s hs => h.2.1 _ (xor_ge hs hc), ?_⟩
  rw [← h.2.2]
  exact sm_invol (τ := fun s => s ^^^ c) (fun s hs => xor_lt2 hs hc) (fun s _ => xor_xor s c) (fun s => (u s : Int))
theorem flp_flp (u : Nat → Nat) (c : Nat) : flp (flp u c) c = u := by funext s; unfold flp; rw [xor_xor]
def tau (S c x : Nat) : Nat := enc (flp (dgp S x) c) S
theorem dgp_tau {K c : Nat} (hc : c < 2 ^ K) (x : Nat) : dgp (2 ^ K) (tau (2 ^ K) c x) = flp (dgp (2 ^ K) x) c := dgp_enc (fun s => dgp_le _ _ _) (fun s hs => dgp_hi (xor_ge hs hc))
theorem tau_tau {K c x : Nat} (hc : c < 2 ^ K) (hx : x < 10 ^ 2 ^ K) : tau (2 ^ K) c (tau (2 ^ K) c x) = x := by
  unfold tau
  rw [show dgp (2 ^ K) (enc (flp (dgp (2 ^ K) x) c) (2 ^ K)) = flp (dgp (2 ^ K) x) c from dgp_tau hc x, flp_flp, enc_dgp hx]
theorem cnt_tau {K c : Nat} (hc : c < 2 ^ K) (P : (Nat → Nat) → Prop) : cnt (10 ^ 2 ^ K) (fun x => P (flp (dgp (2 ^ K) x) c)) = cnt (10 ^ 2 ^ K) (fun x => P (dgp (2 ^ K) x)) := by
  unfold cnt
  rw [← sm_invol (τ := tau (2 ^ K) c) (fun x _ => enc_lt (fun s => dgp_le _ _ _) _) (fun x hx => tau_tau hc hx) (fun x => ind (P (dgp (2 ^ K) x)))]
  exact sm_congr (fun x _ => by rw [dgp_tau hc x])
