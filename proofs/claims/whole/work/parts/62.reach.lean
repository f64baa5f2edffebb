/-! what a swept table tells: reaches, measure -/
theorem sm_ln {n r : Nat} {ln : Nat → Nat} (hi : inj ln r) (hl : ∀ a, a < r → ln a < n) (G : Nat → Int) : sm n (fun i => if spb ln r i then G i else 0) = sm r (fun a => G (ln a)) := by
  have e1 : sm r (fun a => G (ln a)) = sm r (fun a => sm n (fun i => if ln a = i then G i else 0)) := sm_congr (fun a ha => by
    rw [sm_single (hl a ha) (fun i _ hne => if_neg (fun e => hne e.symm)), if_pos rfl])
  rw [e1, sm_swap]
  refine sm_congr (fun i _ => ?_)
  rcases spb_or ln r i with ⟨a, ha, rfl⟩ | h
  · rw [if_pos (spb_t ha), sm_single ha (fun b hb hne => if_neg (fun e => hne (hi b a hb ha e))), if_pos rfl]
  · rw [if_neg (by rw [spb_f h]; decide), sm_zero (fun a ha => if_neg (h a ha))]
def QQ (T : Nat → Nat → Int) (ln : Nat → Nat) (r : Nat) (L R : Nat → Int) : Int := sm r (fun a => sm r (fun b => L (ln a) * adj r (sb T ln) a b * R (ln b)))
theorem UU_alt {T : Nat → Nat → Int} (hT : ∀ i j, T i j = T j i) (ln : Nat → Nat) (r : Nat) (X : Nat → Int) (j : Nat) : UU T ln r X j = X j * DD T ln r - sm r (fun a => X (ln a) * SS T ln r (fun i => T i j) a) := by
  unfold UU
  congr 1
  have e1 : sm r (fun a => T j (ln a) * SS T ln r X a) = sm r (fun a => sm r (fun b => T j (ln a) * (adj r (sb T ln) a b * X (ln b)))) := sm_congr (fun a _ => by unfold SS; rw [sm_mul])
  rw [e1, sm_swap]
  refine sm_congr (fun b hb => ?_)
  rw [← SS_lin hT hb, ← sm_mul]
  exact sm_congr (fun a _ => by grind)
theorem sw_01 {m : Nat} {sw : Nat → Int32} {ln : Nat → Nat} {r : Nat} (h : SP m sw ln r) {i : Nat} (hi : i < m) : (sw i = 0) ↔ spb ln r i = false := by
  rw [h i hi]
  cases spb ln r i
  · simp
  · simp
theorem wp_reaches {n : Nat} (hn : n ≤ 5) {T : Nat → Nat → Int} (hT : ∀ i j, T i j = T j i) (hB : ∀ i j, (T i j).natAbs ≤ 60) {ln : Nat → Nat} {r : Nat} (hi : inj ln r) (hl : ∀ a, a < r → ln a < n) (hrn : r ≤ n) (hall : r = n → ∀ i, i < n → ∃ a, a < r ∧ ln a = i) {cells : Nat → Int64} {sw : Nat → Int32} {size : Int32} {lower : Int64} {p1 : Nat → Int64} {X : Nat → Int} (hsz : size = nI n) (hlo : lower = lI (DD T ln r)) (hc : GC n cells (CV T ln r)) (hsw : SP n sw ln r) (hp : ∀ i, i < n → p1 i = lI (X i)) (hX : ∀ i, i < n → (X i).natAbs ≤ 9) {k : Int32 → Prop}
    (h1 : (∀ j, j < n → UU T ln r X j = 0) → k 1) (h0 : ∀ j, j < n → UU T ln r X j ≠ 0 → k 0) : wpX2_reaches cells sw size lower p1 k := by
  unfold wpX2_reaches
  subst hsz hlo
  have hs := CV_sym hT hi
  refine wloop_n (fun j st => st = nI j ∧ ∀ i, i < j → UU T ln r X i = 0) n ⟨rfl, fun i hi => absurd hi (Nat.not_lt_zero _)⟩ ?_ ?_
  · rintro j st again hj ⟨rfl, hu⟩ hag
    rw [wbX2_reaches_2]
    refine pk_le n j (fun z => absurd z (by omega)) (fun _ => ⟨vp_in_nI (by omega) (by omega), ?_⟩)
    rw [nI_clamp (by omega), sw_01 hsw hj]
    have next : UU T ln r X j = 0 → again (nI j + 1) := fun e => by
      rw [nI_1]
      refine hag _ ⟨rfl, fun i hi => ?_⟩
      by_cases ei : i = j
      · subst ei; exact e
      · exact hu i (by omega)
    refine ⟨fun z => ?_, fun z => ?_⟩
    · have hno : ∀ a, a < r → ln a ≠ j := fun a ha e => by rw [← e, spb_t ha] at z; exact absurd z (by decide)
      have hr4 : r ≤ 4 := by
        by_cases e : r = n
        · obtain ⟨a, ha, hja⟩ := hall e j hj; exact absurd hja (hno a ha)
        · omega
      have hb := fun i j => CV_abs hT hB hr4 hi i j
      refine wloop_n (fun i st => st = (lI (sm i (fun a => if spb ln r a then X a * CV T ln r a j else 0)), nI i)) n rfl ?_ ?_
      · rintro i st again2 hin rfl hag2
        rw [wbX2_reaches_27]
        refine pk_le n i (fun z => absurd z (by omega)) (fun _ => ⟨vp_in_nI (by omega) (by omega), ?_⟩)
        have hst : ∀ v, v = sm (i + 1) (fun a => if spb ln r a then X a * CV T ln r a j else 0) → again2 (lI v, nI i + 1) := fun v hv => by
          rw [nI_1, hv]; exact hag2 _ rfl
        rw [nI_clamp (by omega), sw_01 hsw hin]
        refine ⟨fun z2 => ?_, fun z2 => ⟨vp_in_nI (by omega) (by omega), wp_cellAt (by omega) (by omega) ⟨vp_in_nI (ca_lt i (by omega) j (by omega)) (by omega), ?_⟩⟩⟩
        · rw [← lI_0, lI_add]
          refine hst _ ?_
          rw [sm, z2]; simp
        · have := ca_lt i (by omega) j (by omega)
          rw [nI_clamp (by omega), hp i hin, GC_ca hs hc hin hj, lI_mul, lI_add]
          refine hst _ ?_
          rw [sm, if_pos (by simpa using z2)]
      · rintro st again2 rfl
        rw [wbX2_reaches_27]
        refine pk_le n n (fun _ => ⟨vp_in_nI (by omega) (by omega), ?_⟩) (fun z => absurd z (by omega))
        rw [nI_clamp (by omega), hp j hj, lI_mul]
        have b1 : (sm n (fun a => if spb ln r a then X a * CV T ln r a j else 0)).natAbs ≤ n * (9 * 100000000000) := sm_abs n _ _ (fun a ha => by
          split
          · rw [Int.natAbs_mul]; exact Nat.mul_le_mul (hX a ha) (hb a j)
          · simp)
        have b2 : (X j * DD T ln r).natAbs ≤ 9 * 100000000000 := by
          rw [Int.natAbs_mul]; exact Nat.mul_le_mul (hX j hj) (DDb (by omega) hB)
        have e1 : sm n (fun a => if spb ln r a then X a * CV T ln r a j else 0) = X j * DD T ln r - UU T ln r X j := by
          rw [sm_ln hi hl (fun a => X a * CV T ln r a j), UU_alt hT, sm_congr (fun a ha => by rw [CV_s hi ha, XC_u hno])]
          omega
        have b3 : n * (9 * 100000000000) ≤ 5 * (9 * 100000000000) := Nat.mul_le_mul_right _ hn
        rw [lI_inj (by omega) (by omega), e1]
        exact ⟨fun e => next (by omega), fun e => h0 j hj (by omega)⟩
    · refine next ?_
      rcases spb_or ln r j with ⟨a, ha, rfl⟩ | hno
      · exact UU_line T ln r X ha
      · rw [spb_f hno] at z; exact absurd rfl z
  · rintro st again ⟨rfl, hu⟩
    rw [wbX2_reaches_2]
    exact pk_le n n (fun _ => h1 hu) (fun z => absurd z (by omega))
theorem wp_measure {n : Nat} (hn : n ≤ 5) {T : Nat → Nat → Int} (hT : ∀ i j, T i j = T j i) {ln : Nat → Nat} {r : Nat} (hi : inj ln r) (hl : ∀ a, a < r → ln a < n) {cells : Nat → Int64} {sw : Nat → Int32} {size : Int32} {p1 p2 : Nat → Int64} {L R : Nat → Int} (hsz : size = nI n) (hc : GC n cells (CV T ln r)) (hsw : SP n sw ln r) (hp1 : ∀ i, i < n → p1 i = lI (L i)) (hp2 : ∀ i, i < n → p2 i = lI (R i)) {k : Int64 → Prop}
    (h : k (lI (QQ T ln r L R))) : wpX2_measure cells sw size p1 p2 k := by
  unfold wpX2_measure
  subst hsz
  have hs := CV_sym hT hi
  have row : ∀ i, i < n → spb ln r i = false → ∀ m, sm m (fun j => if spb ln r i ∧ spb ln r j then L i * CV T ln r i j * R j else 0) = 0 := fun i _ z m => sm_zero (fun j _ => by rw [z]; simp)
  refine wloop_n (fun i st => st = (lI (- sm i (fun a => sm n (fun b => if spb ln r a ∧ spb ln r b then L a * CV T ln r a b * R b else 0))), nI i)) n rfl ?_ ?_
  · rintro i st again hin rfl hag
    rw [wbX2_measure_5]
    refine pk_le n i (fun z => absurd z (by omega)) (fun _ => ?_)
    refine wloop_n (fun j st => st = (lI (- sm i (fun a => sm n (fun b => if spb ln r a ∧ spb ln r b then L a * CV T ln r a b * R b else 0)) - sm j (fun b => if spb ln r i ∧ spb ln r b then L i * CV T ln r i b * R b else 0)), nI j)) n (by rw [sm, Int.sub_zero]; rfl) ?_ ?_
    · rintro j st again2 hj rfl hag2
      rw [wbX2_measure_17]
      refine pk_le n j (fun z => absurd z (by omega)) (fun _ => ⟨vp_in_nI (by omega) (by omega), ?_⟩)
      generalize sm i (fun a => sm n (fun b => if spb ln r a ∧ spb ln r b then L a * CV T ln r a b * R b else 0)) = S at *
      have hst : ∀ v, v = - S - sm (j + 1) (fun b => if spb ln r i ∧ spb ln r b then L i * CV T ln r i b * R b else 0) → again2 (lI v, nI j + 1) := fun v hv => by
        rw [nI_1, hv]; exact hag2 _ rfl
      have skip : ¬ (spb ln r i ∧ spb ln r j) → again2 (lI (- S - sm j (fun b => if spb ln r i ∧ spb ln r b then L i * CV T ln r i b * R b else 0)), nI j + 1) := fun e => hst _ (by rw [sm, if_neg e]; omega)
      rw [nI_clamp (by omega), sw_01 hsw hin]
      refine ⟨fun z => skip (by rw [z]; simp), fun z => ⟨vp_in_nI (by omega) (by omega), ?_⟩⟩
      rw [nI_clamp (by omega), sw_01 hsw hj]
      refine ⟨fun z2 => skip (by rw [z2]; simp), fun z2 => ⟨vp_in_nI (by omega) (by omega), wp_cellAt (by omega) (by omega) ⟨vp_in_nI (ca_lt i (by omega) j (by omega)) (by omega), vp_in_nI (by omega) (by omega), ?_⟩⟩⟩
      have := ca_lt i (by omega) j (by omega)
      rw [nI_clamp (by omega), hp1 i hin, hp2 j hj, GC_ca hs hc hin hj, lI_mul, lI_mul, lI_sub]
      refine hst _ ?_
      rw [sm, if_pos ⟨by simpa using z, by simpa using z2⟩]
      omega
    · rintro st again2 rfl
      rw [wbX2_measure_17]
      refine pk_le n n (fun _ => ?_) (fun z => absurd z (by omega))
      rw [nI_1]
      refine hag _ ?_
      rw [sm]
      congr 2
      omega
  · rintro st again rfl
    rw [wbX2_measure_5]
    refine pk_le n n (fun _ => ?_) (fun z => absurd z (by omega))
    have e : - sm n (fun a => sm n (fun b => if spb ln r a ∧ spb ln r b then L a * CV T ln r a b * R b else 0)) = QQ T ln r L R := by
      have e1 : sm n (fun a => sm n (fun b => if spb ln r a ∧ spb ln r b then L a * CV T ln r a b * R b else 0)) = sm n (fun a => if spb ln r a then sm n (fun b => if spb ln r b then L a * CV T ln r a b * R b else 0) else 0) := sm_congr (fun a _ => by
        by_cases z : spb ln r a = true
        · rw [if_pos z]; exact sm_congr (fun b _ => by simp [z])
        · rw [if_neg z]; exact sm_zero (fun b _ => by simp [z]))
      rw [e1, sm_ln hi hl (fun a => sm n (fun b => if spb ln r b then L a * CV T ln r a b * R b else 0)), ← sm_neg]
      unfold QQ
      refine sm_congr (fun a ha => ?_)
      rw [sm_ln hi hl (fun b => L (ln a) * CV T ln r (ln a) b * R b), ← sm_neg]
      refine sm_congr (fun b hb => ?_)
      rw [CV_s hi ha, XC_s hb, SS_un hi hb]
      grind
    rw [e]
    exact h
theorem measure_same (cells : Nat → Int64) (sw : Nat → Int32) (size : Int32) (p1 : Nat → Int64) (k : Int64 → Prop) : wpX2_measure_p2p1 cells sw size p1 k = wpX2_measure cells sw size p1 p1 k := rfl
