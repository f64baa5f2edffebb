/-! the invariant: what class and reference have in common -/
/-- products of the first m words (but one): a set -/
def sp (wo : Nat → Nat) (but : Nat) : Nat → Nat → Prop
  | 0, t => t = 0
  | m + 1, t => sp wo but m t ∨ (m ≠ but ∧ wo m ≠ 0 ∧ sp wo but m (t ^^^ wo m))
/-- none of the words is a product of those ahead -/
def IN (wo : Nat → Nat) : Prop := ∀ m, m < 4 → wo m ≠ 0 → ¬ sp wo 4 m (wo m)
/-- how often a SETTING was SEEN, and the sum of its readings -/
def cn (pl : Nat → Nat) (s : Nat) : Nat → Nat
  | 0 => 0
  | c + 1 => cn pl s c + (if pl c = s then 1 else 0)
def su (pl : Nat → Nat) (rd : Nat → Int) (c s : Nat) : Int := sm c (fun x => if pl x = s then rd x else 0)
def tot (ti : Nat → Nat) (n : Nat) : Int := sm n (fun s => (ti s : Int))
/-- what holds of a desk -/
def VA (K n : Nat) (te ti wo : Nat → Nat) (mk : Nat → Int) (c : Nat) (pl : Nat → Nat) (rd : Nat → Int) : Prop :=
  (1 ≤ K ∧ K ≤ 6) ∧ (1 ≤ n ∧ n ≤ 5) ∧ (∀ i, i < n → te i < 2 ^ K) ∧ (∀ i j, i < j → j < n → te i ≠ te j) ∧ (∀ s, ti s ≤ 9) ∧ (∀ s, 2 ^ K ≤ s → ti s = 0) ∧ tot ti 64 ≤ 40 ∧ (∀ i, wo i < 2 ^ K) ∧ IN wo ∧ (∀ i, mk i = 1 ∨ mk i = -1) ∧ c ≤ 60 ∧ (∀ x, pl x < 2 ^ K) ∧ (∀ x, -1000 ≤ rd x ∧ rd x ≤ 1000)
/-- the class's desk -/
def RD (d : DS) (K n : Nat) (te ti wo : Nat → Nat) (mk : Nat → Int) (c : Nat) (pl : Nat → Nat) (rd : Nat → Int) : Prop :=
  d.1 = nI K ∧ d.2.1 = nI n ∧ d.2.2.1 = iI (tot ti 64) ∧ d.2.2.2.1 = nI c ∧ d.2.2.2.2.1 = lI (sm c (fun x => rd x * rd x)) ∧ (∀ i, i < n → d.2.2.2.2.2.1 i = nI (te i)) ∧ (∀ s, s < 64 → d.2.2.2.2.2.2.1 s = nI (ti s)) ∧ (∀ i, i < 4 → d.2.2.2.2.2.2.2.1 i = nI (wo i)) ∧ (∀ i, i < 4 → wo i ≠ 0 → d.2.2.2.2.2.2.2.2.1 i = iI (mk i)) ∧ (∀ s, s < 64 → d.2.2.2.2.2.2.2.2.2.1 s = nI (cn pl s c)) ∧ (∀ s, s < 64 → d.2.2.2.2.2.2.2.2.2.2 s = iI (su pl rd c s))
/-- the reference's cells -/
def RG (g : Nat → Int32) (K n : Nat) (te ti wo : Nat → Nat) (mk : Nat → Int) (c : Nat) (pl : Nat → Nat) (rd : Nat → Int) : Prop :=
  g 0 = nI K ∧ g 1 = nI n ∧ (∀ i, i < n → g (2 + i) = nI (te i)) ∧ (∀ s, s < 64 → g (7 + s) = nI (ti s)) ∧ (∀ i, i < 4 → g (71 + i) = nI (wo i)) ∧ (∀ i, i < 4 → wo i ≠ 0 → g (75 + i) = iI (mk i)) ∧ g 79 = nI c ∧ (∀ x, x < c → g (80 + x) = nI (pl x)) ∧ (∀ x, x < c → g (140 + x) = iI (rd x))
def RR (d : DS) (g : Nat → Int32) : Prop := ∃ K n te ti wo mk c pl rd, VA K n te ti wo mk c pl rd ∧ RD d K n te ti wo mk c pl rd ∧ RG g K n te ti wo mk c pl rd
theorem RG_congr {g g' : Nat → Int32} {K n : Nat} {te ti wo : Nat → Nat} {mk : Nat → Int} {c : Nat} {pl : Nat → Nat} {rd : Nat → Int} (hn : n ≤ 5) (hc : c ≤ 60) (h : RG g K n te ti wo mk c pl rd) (e : ∀ i, i < 202 → g' i = g i) : RG g' K n te ti wo mk c pl rd := by
  obtain ⟨h1, h2, h3, h4, h5, h6, h7, h8, h9⟩ := h
  refine ⟨by rw [e 0 (by omega), h1], by rw [e 1 (by omega), h2], fun i hi => by rw [e _ (by omega), h3 i hi], fun i hi => by rw [e _ (by omega), h4 i hi], fun i hi => by rw [e _ (by omega), h5 i hi], fun i hi h0 => by rw [e _ (by omega), h6 i hi h0], by rw [e _ (by omega), h7], fun i hi => by rw [e _ (by omega), h8 i hi], fun i hi => by rw [e _ (by omega), h9 i hi]⟩
theorem RR_congr {d : DS} {g g' : Nat → Int32} (h : RR d g) (e : ∀ i, i < 202 → g' i = g i) : RR d g' := by
  obtain ⟨K, n, te, ti, wo, mk, c, pl, rd, hV, hD, hG⟩ := h
  exact ⟨K, n, te, ti, wo, mk, c, pl, rd, hV, hD, RG_congr hV.2.1.2 hV.2.2.2.2.2.2.2.2.2.2.1 hG e⟩
/-- the reference's start -/
def LAY (k : Int32) (g : Nat → Int32) : Prop := g 0 = k ∧ g 1 = 1 ∧ ∀ i, 2 ≤ i → i < 202 → g i = 0
def BR (d : DS) (g : Nat → Int32) (b : Int32) : Prop := (b ≠ 0 ∧ RR d g) ∨ (b = 0 ∧ ∀ g', LAY 3 g' → RR d g')
/-- what is kept -/
def HI (hc : Int32 × Int32 × (Nat → DS)) (ks : Int32) (kept : Nat → Int32) : Prop := ∃ h p, h ≤ 8 ∧ p < 8 ∧ hc.1 = nI h ∧ hc.2.1 = nI p ∧ ks = nI h ∧ ∀ j, j < h → RR (hc.2.2 ((p + 8 - h + j) % 8)) (fun i => kept (202 * j + i))
/-- PLANS -/
def vpl (S N : Nat) (u : Nat → Nat) : Prop := (∀ s, u s ≤ 9) ∧ (∀ s, S ≤ s → u s = 0) ∧ tot u S = N
def lexgt (u v : Nat → Nat) : Prop := ∃ j, (∀ i, i < j → u i = v i) ∧ v j < u j
def WW (K n : Nat) (te u : Nat → Nat) : Int := det n (tbp n te id u (2 ^ K))
def BP (S N : Nat) (W : (Nat → Nat) → Int) (u : Nat → Nat) : Prop := vpl S N u ∧ (∀ v, vpl S N v → W v ≤ W u) ∧ (∀ v, vpl S N v → W v = W u → ¬ lexgt v u)
noncomputable def ind (P : Prop) : Int := @ite Int P (Classical.propDecidable P) 1 0
noncomputable def cnt (N : Nat) (P : Nat → Prop) : Int := sm N (fun x => ind (P x))
def dgp (S x : Nat) : Nat → Nat := fun s => if s < S then x / 10 ^ s % 10 else 0
/-- how many PLANS there are, 20001 at most -/
def wys (w : Nat → Nat) (r : Nat) : Nat → Nat
  | 0 => 0
  | k + 1 => wys w r k + (if k ≤ r then w (r - k) else 0)
def wy : Nat → Nat → Nat
  | 0, r => if r = 0 then 1 else 0
  | s + 1, r => min 20001 (wys (wy s) r 10)
def PR (S N : Nat) (W : (Nat → Nat) → Int) (bc : Int32) (first : Nat → Int32) : Prop :=
  (20000 < wy S N → bc = -1) ∧ (wy S N = 0 → bc = 0) ∧ (0 < wy S N → wy S N ≤ 20000 → ∃ u, BP S N W u ∧ bc = iI (cnt (10 ^ S) (fun x => vpl S N (dgp S x) ∧ W (dgp S x) = W u)) ∧ 1 ≤ cnt (10 ^ S) (fun x => vpl S N (dgp S x) ∧ W (dgp S x) = W u) ∧ cnt (10 ^ S) (fun x => vpl S N (dgp S x) ∧ W (dgp S x) = W u) ≤ 20000 ∧ ∀ s, s < 64 → first s = nI (u s))
abbrev PS : Type := (Int32 × Int32 × Int32 × Int32 × Int64 × Int32 × (Nat → Int32) × (Nat → Int32) × (Nat → Int32) × (Nat → Int32) × (Nat → Int32) × (Nat → Int32)) × (Int32 × Int32 × Int64 × (Nat → Int64) × (Nat → Int32)) × (Int32 × Int32 × Int64 × (Nat → Int64) × (Nat → Int32))
def PSI (p : PS) : Prop := p.1.2.2.1 = -1 ∨ ∃ K n te N, (1 ≤ K ∧ K ≤ 6) ∧ (1 ≤ n ∧ n ≤ 5) ∧ (∀ i, i < n → te i < 2 ^ K) ∧ N ≤ 40 ∧ p.1.2.1 = nI K ∧ p.1.1 = nI n ∧ (∀ i, i < n → p.1.2.2.2.2.2.2.1 i = nI (te i)) ∧ p.1.2.2.1 = nI N ∧ PR (2 ^ K) N (WW K n te) p.1.2.2.2.2.2.1 p.1.2.2.2.2.2.2.2.2.2.2.2
/-- CHAINS -/
def mnl (p : Nat → Bool) (f : Nat → Nat) : Nat → Nat
  | 0 => 10000
  | k + 1 => if p k = true ∧ f k < mnl p f k then f k else mnl p f k
def aml (p : Nat → Bool) (f : Nat → Nat) : Nat → Nat
  | 0 => 0
  | k + 1 => if p k = true ∧ f k < mnl p f k then k else aml p f k
def dcr (l : Nat → Nat) (s : Nat) : Nat → Nat := fun t => if t = s then l t - 1 else l t
def opn (l : Nat → Nat) : Nat → Bool := fun s => decide (0 < l s)
def fcs : Nat → (Nat → Nat) → Nat → Nat
  | 0, _, _ => 0
  | m + 1, l, a => mnl (opn l) (fun s => pc (a ^^^ s) + fcs m (dcr l s) s) 64
def cbs : Nat → (Nat → Nat) → (Nat → Nat) → Nat
  | 0, _, _ => 0
  | m + 1, l, gp => mnl (opn l) (fun s => gp s + fcs m (dcr l s) s) 64
def css : Nat → (Nat → Nat) → (Nat → Nat) → Nat → Nat
  | 0, _, _, _ => 0
  | m + 1, l, gp, 0 => aml (opn l) (fun s => gp s + fcs m (dcr l s) s) 64
  | m + 1, l, gp, i + 1 => css m (dcr l (aml (opn l) (fun s => gp s + fcs m (dcr l s) s) 64)) (fun t => pc (aml (opn l) (fun s => gp s + fcs m (dcr l s) s) 64 ^^^ t)) i
def CR (M : Nat) (ti : Nat → Nat) (changes : Int32) (chained : Nat → Int32) : Prop := changes = nI (cbs M ti (fun _ => 0)) ∧ ∀ i, i < M → chained i = nI (css M ti (fun _ => 0) i)
abbrev CST : Type := Int32 × Int32 × Int32 × Int32 × Int32 × (Nat → Int32) × (Nat → Int32) × (Nat → Int32) × (Nat → Int32) × (Nat → Int32) × Nat × Nat × (Nat → Int32) × (Nat → Int32) × (Nat → Int32) × (Nat → Int32) × (Nat → Int32)
def clen (p : CST) : Nat := p.2.2.2.2.2.2.2.2.2.2.2.1
def CSI (p : CST) : Prop := (p.1 = 0 ∨ p.1 = 1) ∧ (∀ j, j < 12 → p.2.2.2.2.2.2.2.2.2.1 (144 + j) = 0) ∧ clen p ≤ 49152 ∧ (p.1 ≠ 0 → ∃ (ti : Nat → Nat) (M : Nat), (∀ s, s < 64 → p.2.2.2.2.2.1 s = nI (ti s)) ∧ (∀ s, ti s ≤ 9) ∧ (∀ s, 64 ≤ s → ti s = 0) ∧ tot ti 64 = (M : Int) ∧ M ≤ 12 ∧ CR M ti p.2.2.2.2.1 p.2.2.2.2.2.2.2.2.2.2.2.2.2.2.2.2)
def LInv (x : XS) (y : MS) : Prop := BR x.1 y.1.2.2.1 y.1.2.1 ∧ HI x.2.1 y.1.1 y.1.2.2.2 ∧ PSI x.2.2.2.2.1 ∧ CSI x.2.2.2.2.2.2.1
def pot (x : XS) : Nat := if clen x.2.2.2.2.2.2.1 < 49152 then 2 * clen x.2.2.2.2.2.2.1 else 147456
theorem lb_pot (x : XS) (y : MS) (h : LInv x y) : pot x ≤ 147456 := by unfold pot; split <;> omega
