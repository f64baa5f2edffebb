/-! CONTRACTS OVER MORE CELLS, and calls in a world of two halves -/
theorem sub_of {ws wc : va_W} {is : List Nat} (hC : is.map (fun i => ws[i]?) = wc.map some) : is.filterMap (fun i => ws[i]?) = wc := by
  have h1 := congrArg (fun z => z.filterMap id) hC
  simpa [List.filterMap_map, Function.comp_def] using h1
theorem va_A.mono {ws wc : va_W} {sz : Nat} {is : List Nat} (hC : is.map (fun i => ws[i]?) = wc.map some) : ∀ q, va_A wc sz q → va_A ws sz q := by
  intro q h
  rcases h with ⟨k, e, h⟩ | h
  · have h1 : (is.map (fun i => ws[i]?))[k]? = some (some (q, e)) := by rw [hC, List.getElem?_map, h]; rfl
    rw [List.getElem?_map] at h1
    cases hi : is[k]? with
    | none => rw [hi] at h1; cases h1
    | some i => rw [hi] at h1; exact Or.inl ⟨i, e, Option.some.inj h1⟩
  · exact Or.inr h
section FR
variable {l : Launch} {y : MethodName} {ws : List Cond} {rm : Room} {D : va_G} {TY : vTY} {tz : Nat} {av : List Value} {WW wc wr : va_W} {mc ms : Nat} {S S' : Type} {w1 : S → va_W} {W1 : S' → va_W}
theorem frame_pre (isC : List Nat) (hC : isC.map (fun i => WW[i]?) = wc.map some) (hnc : va_nd isC = true) {sz : Nat} {U : State} (h : vPr D TY tz WW sz U) : vPr D TY tz wc sz U := by
  obtain ⟨h1, h2, h3, h4, h5⟩ := h
  exact ⟨h1, h2.sub isC (sub_of hC), h3, h4.sub isC hnc hC, h5.narrow (va_A.mono hC)⟩
theorem frame_post (f : S → S') (isC isR : List Nat) (hC : isC.map (fun i => WW[i]?) = wc.map some) (hR : isR.map (fun i => WW[i]?) = wr.map some) (hnr : va_nd isR = true) (hdis : ∀ i ∈ isR, i ∉ isC) (isP : List Nat) (hnp : va_nd isP = true) (hW : ∀ u, isP.map (fun i => (wr ++ w1 u)[i]?) = (W1 (f u)).map some)
    {sz : Nat} {st t : State} (h : vPr D TY tz WW sz st) {u : S} (hB : vB D w1 (va_A wc sz) u t) (hF : va_F (va_A wc sz) st t) : vB D W1 (va_A WW sz) (f u) t ∧ va_F (va_A WW sz) st t := by
  obtain ⟨h1, h2, h3, h4, h5⟩ := h
  subst h1
  obtain ⟨hP2, hD2⟩ := va_join (wr := wr) (w1 := w1 u) h2 (h4.self (sz := st.heap.size)) isC isR hC hR hnr hdis hF.2 (va_A.mono hC) hB.1 hB.2
  exact ⟨⟨hP2.sub isP (sub_of (hW u)), hD2.sub isP hnp (hW u)⟩, hF.1, fun q a b => hF.2 q a (fun z => b (va_A.mono hC q z))⟩
theorem MI.frame {post : Int32 → S → Prop} {K : Int32 → S' → Prop} (f : S → S') (hM : MI l y ws rm D TY tz av wc post w1 mc ms) (hpost : ∀ r u, post r u → K r (f u)) (isC isR : List Nat) (hC : isC.map (fun i => WW[i]?) = wc.map some) (hR : isR.map (fun i => WW[i]?) = wr.map some) (hnc : va_nd isC = true) (hnr : va_nd isR = true) (hdis : ∀ i ∈ isR, i ∉ isC) (isP : List Nat) (hnp : va_nd isP = true) (hW : ∀ u, isP.map (fun i => (wr ++ w1 u)[i]?) = (W1 (f u)).map some) : MI l y ws rm D TY tz av WW K W1 mc ms := by
  intro sz
  refine MetFree.mono (hM sz) (fun a s h => ⟨h.1, frame_pre isC hC hnc h.2⟩) (fun _ _ _ _ _ h => h) ?_
  intro a st o t hp hq
  obtain ⟨⟨⟨r, u, ho, hu, hB⟩, hF⟩, L, hL1, hL2⟩ := hq
  obtain ⟨hB2, hF2⟩ := frame_post f isC isR hC hR hnr hdis isP hnp hW hp.2 hB hF
  exact ⟨⟨⟨r, f u, ho, hpost r u hu, hB2⟩, hF2⟩, L, hL1, fun q hq => va_A.mono hC _ (hL2 q hq)⟩
theorem ML.frame {post : Int64 → S → Prop} {K : Int64 → S' → Prop} (f : S → S') (hM : ML l y ws rm D TY tz av wc post w1 mc ms) (hpost : ∀ r u, post r u → K r (f u)) (isC isR : List Nat) (hC : isC.map (fun i => WW[i]?) = wc.map some) (hR : isR.map (fun i => WW[i]?) = wr.map some) (hnc : va_nd isC = true) (hnr : va_nd isR = true) (hdis : ∀ i ∈ isR, i ∉ isC) (isP : List Nat) (hnp : va_nd isP = true) (hW : ∀ u, isP.map (fun i => (wr ++ w1 u)[i]?) = (W1 (f u)).map some) : ML l y ws rm D TY tz av WW K W1 mc ms := by
  intro sz
  refine MetFree.mono (hM sz) (fun a s h => ⟨h.1, frame_pre isC hC hnc h.2⟩) (fun _ _ _ _ _ h => h) ?_
  intro a st o t hp hq
  obtain ⟨⟨⟨r, u, ho, hu, hB⟩, hF⟩, L, hL1, hL2⟩ := hq
  obtain ⟨hB2, hF2⟩ := frame_post f isC isR hC hR hnr hdis isP hnp hW hp.2 hB hF
  exact ⟨⟨⟨r, f u, ho, hpost r u hu, hB2⟩, hF2⟩, L, hL1, fun q hq => va_A.mono hC _ (hL2 q hq)⟩
theorem MV.frame {post : S → Prop} {K : S' → Prop} (f : S → S') (hM : MV l y ws rm D TY tz av wc post w1 mc ms) (hpost : ∀ u, post u → K (f u)) (isC isR : List Nat) (hC : isC.map (fun i => WW[i]?) = wc.map some) (hR : isR.map (fun i => WW[i]?) = wr.map some) (hnc : va_nd isC = true) (hnr : va_nd isR = true) (hdis : ∀ i ∈ isR, i ∉ isC) (isP : List Nat) (hnp : va_nd isP = true) (hW : ∀ u, isP.map (fun i => (wr ++ w1 u)[i]?) = (W1 (f u)).map some) : MV l y ws rm D TY tz av WW K W1 mc ms := by
  intro sz
  refine MetFree.mono (hM sz) (fun a s h => ⟨h.1, frame_pre isC hC hnc h.2⟩) (fun _ _ _ _ _ h => h) ?_
  intro a st o t hp hq
  obtain ⟨⟨⟨u, ho, hu, hB⟩, hF⟩, L, hL1, hL2⟩ := hq
  obtain ⟨hB2, hF2⟩ := frame_post f isC isR hC hR hnr hdis isP hnp hW hp.2 hB hF
  exact ⟨⟨⟨f u, ho, hpost u hu, hB2⟩, hF2⟩, L, hL1, fun q hq => va_A.mono hC _ (hL2 q hq)⟩
end FR
theorem va_nd_of : ∀ (l : List Nat), l.Pairwise (· ≠ ·) → va_nd l = true
  | [], _ => rfl
  | a :: l, h => by
    simp only [va_nd, Bool.and_eq_true, decide_eq_true_eq]
    rw [List.pairwise_cons] at h
    exact ⟨fun hm => h.1 a hm rfl, va_nd_of l h.2⟩
theorem va_nd_range (a n : Nat) : va_nd (List.range' a n) = true := va_nd_of _ ((List.pairwise_lt_range' (s := a) (n := n)).imp (fun h => Nat.ne_of_lt h))
theorem rng_l (a b : va_W) : (List.range' 0 a.length).map (fun i => (a ++ b)[i]?) = a.map some := by
  apply List.ext_getElem?
  intro i
  rw [List.getElem?_map, List.getElem?_map]
  by_cases h : i < a.length
  · rw [List.getElem?_range' h]
    simp only [Option.map_some, Nat.zero_add, Nat.one_mul]
    rw [List.getElem?_append_left h, List.getElem?_eq_getElem h]
    rfl
  · rw [List.getElem?_eq_none (by simp; omega), List.getElem?_eq_none (by omega)]
    rfl
theorem rng_r (a b : va_W) : (List.range' a.length b.length).map (fun i => (a ++ b)[i]?) = b.map some := by
  apply List.ext_getElem?
  intro i
  rw [List.getElem?_map, List.getElem?_map]
  by_cases h : i < b.length
  · rw [List.getElem?_range' h]
    simp [h]
  · rw [List.getElem?_eq_none (by simp; omega), List.getElem?_eq_none (by omega)]
    rfl
theorem rng_dis (a b c : Nat) : ∀ i ∈ List.range' (a + b) c, i ∉ List.range' a b := by
  intro i h1 h2
  rw [List.mem_range'] at h1 h2
  omega
theorem rng_dis' (a b : Nat) : ∀ i ∈ List.range' 0 a, i ∉ List.range' a b := by
  intro i h1 h2
  rw [List.mem_range'] at h1 h2
  omega
theorem va_D.comm {A : Nat → Prop} {a b : va_W} (h : va_D A (a ++ b)) : va_D A (b ++ a) := by
  refine h.sub (ws' := b ++ a) (List.range' a.length b.length ++ List.range' 0 a.length) (va_nd_of _ ?_) (by rw [List.map_append, rng_l, rng_r, List.map_append])
  rw [List.pairwise_append]
  exact ⟨(List.pairwise_lt_range' (s := a.length) (n := b.length)).imp (fun h => Nat.ne_of_lt h), (List.pairwise_lt_range' (s := 0) (n := a.length)).imp (fun h => Nat.ne_of_lt h), fun x h1 y h2 e => by
    rw [List.mem_range'] at h1 h2
    omega⟩
theorem va_P.comm {D : va_G} {cl : List vw_C} {a b : va_W} {H : Heap} (h : va_P D cl (a ++ b) H) : va_P D cl (b ++ a) H := by
  refine h.sub (List.range' a.length b.length ++ List.range' 0 a.length) ?_
  rw [List.filterMap_append, sub_of (rng_l a b), sub_of (rng_r a b)]
