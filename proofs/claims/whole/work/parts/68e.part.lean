/-! the step part -/
def ip (wo : Nat → Nat) (mk : Nat → Int) : Nat → Nat → Bool
  | 0, _ => true
  | m + 1, s => ip wo mk m s && (decide (wo m = 0) || decide (ch (wo m) s = mk m))
def ib (b : Bool) : Int := if b = true then 1 else 0
theorem mk_ch {a : Int} (h : a = 1 ∨ a = -1) (t s : Nat) : 2 * (if ch t s = a then 1 else 0) = 1 + a * ch t s := by
  rcases h with rfl | rfl <;> rcases ch_1 t s with h | h <;> rw [h] <;> decide
theorem ip_succ {wo : Nat → Nat} {mk : Nat → Int} (hmk : ∀ i, mk i = 1 ∨ mk i = -1) {m : Nat} (h : wo m ≠ 0) (s : Nat) : 2 * ib (ip wo mk (m + 1) s) = ib (ip wo mk m s) + mk m * (ib (ip wo mk m s) * ch (wo m) s) := by
  have e := mk_ch (hmk m) (wo m) s
  rw [ip]
  cases hb : ip wo mk m s with
  | false => simp [ib]
  | true =>
    have e2 : ib (true && (decide (wo m = 0) || decide (ch (wo m) s = mk m))) = if ch (wo m) s = mk m then 1 else 0 := by
      unfold ib
      by_cases c : ch (wo m) s = mk m
      · rw [if_pos c]; simp [c]
      · rw [if_neg c]; simp [c, h]
    rw [e2, e]
    show 1 + mk m * ch (wo m) s = 1 + mk m * (1 * ch (wo m) s)
    rw [Int.one_mul]
theorem ip_sum {K : Nat} (hK : K ≤ 6) {wo : Nat → Nat} {mk : Nat → Int} (hw : ∀ i, wo i < 2 ^ K) (hin : IN wo) (hmk : ∀ i, mk i = 1 ∨ mk i = -1) : ∀ m, m ≤ 4 → sm (2 ^ K) (fun s => ib (ip wo mk m s)) * (2 ^ pn wo 4 m : Nat) = (2 ^ K : Nat) ∧ ∀ u, u < 2 ^ K → ¬ sp wo 4 m u → sm (2 ^ K) (fun s => ib (ip wo mk m s) * ch u s) = 0
  | 0, _ => by
    have h64 := p64 hK
    refine ⟨?_, fun u hu hs => ?_⟩
    · show sm (2 ^ K) (fun _ => (1 : Int)) * ((2 ^ 0 : Nat) : Int) = _
      rw [sm_const]; simp
    · rw [sm_congr (g := fun s => ch u s) (fun s _ => by show 1 * ch u s = _; rw [Int.one_mul])]
      exact chs_tab K (by omega) u (by omega) hu hs
  | m + 1, hm => by
    have h64 := p64 hK
    obtain ⟨i1, i2⟩ := ip_sum hK hw hin hmk m (by omega)
    by_cases c : wo m = 0
    · have ep : pn wo 4 (m + 1) = pn wo 4 m := by rw [pn, if_neg (fun z => z.2 c)]; rfl
      have ei : ∀ s, ip wo mk (m + 1) s = ip wo mk m s := fun s => by rw [ip]; simp [c]
      rw [ep]
      refine ⟨by rw [sm_congr (fun s _ => by rw [ei s])]; exact i1, fun u hu hs => ?_⟩
      rw [sm_congr (fun s _ => by rw [ei s])]
      exact i2 u hu (fun z => hs (Or.inl z))
    · have ep : pn wo 4 (m + 1) = pn wo 4 m + 1 := by rw [pn, if_pos ⟨by omega, c⟩]
      have key : ∀ g : Nat → Int, 2 * sm (2 ^ K) (fun s => ib (ip wo mk (m + 1) s) * g s) = sm (2 ^ K) (fun s => ib (ip wo mk m s) * g s) + mk m * sm (2 ^ K) (fun s => ib (ip wo mk m s) * (ch (wo m) s * g s)) := fun g => by
        rw [← sm_mul, ← sm_mul, ← sm_add]
        refine sm_congr (fun s _ => ?_)
        have := ip_succ hmk c s
        rw [← Int.mul_assoc, this]
        generalize ib (ip wo mk m s) = a
        generalize ch (wo m) s = b
        grind
      have hno := hin m (by omega) c
      refine ⟨?_, fun u hu hs => ?_⟩
      · have k1 := key (fun _ => 1)
        simp only [Int.mul_one] at k1
        rw [i2 (wo m) (hw m) hno] at k1
        rw [ep, Nat.pow_succ]
        rw [← i1]
        generalize sm (2 ^ K) (fun s => ib (ip wo mk (m + 1) s)) = a at k1 ⊢
        generalize sm (2 ^ K) (fun s => ib (ip wo mk m s)) = b at k1 ⊢
        have e : b = 2 * a := by omega
        rw [e]
        generalize 2 ^ pn wo 4 m = q
        rw [Int.natCast_mul]
        show a * (q * 2) = 2 * a * q
        grind
      · have k1 := key (fun s => ch u s)
        rw [i2 u hu (fun z => hs (Or.inl z))] at k1
        rw [sm_congr (f := fun s => ib (ip wo mk m s) * (ch (wo m) s * ch u s)) (g := fun s => ib (ip wo mk m s) * ch (u ^^^ wo m) s) (fun s _ => by rw [Int.mul_comm (ch (wo m) s), ch_xor (by omega) (by have := hw m; omega)])] at k1
        rw [i2 (u ^^^ wo m) (xor_lt2 hu (hw m)) (fun z => hs (Or.inr ⟨by omega, c, z⟩))] at k1
        omega
theorem mbn_sm (mb : Nat → Bool) (N : Nat) : (mbn mb N : Int) = sm N (fun s => ib (mb s)) := by
  unfold mbn
  rw [cn_sm]
  refine sm_congr (fun s _ => ?_)
  unfold ib
  cases mb s <;> rfl
theorem part_count {K : Nat} (hK : K ≤ 6) {wo : Nat → Nat} {mk : Nat → Int} (hw : ∀ i, wo i < 2 ^ K) (hin : IN wo) (hmk : ∀ i, mk i = 1 ∨ mk i = -1) : 2 ^ K / 2 ^ pn wo 4 4 = mbn (ip wo mk 4) (2 ^ K) := by
  have h := (ip_sum hK hw hin hmk 4 (by omega)).1
  rw [← mbn_sm, ← Int.natCast_mul] at h
  have h2 : mbn (ip wo mk 4) (2 ^ K) * 2 ^ pn wo 4 4 = 2 ^ K := by exact_mod_cast h
  have hp := Nat.two_pow_pos (pn wo 4 4)
  calc 2 ^ K / 2 ^ pn wo 4 4 = mbn (ip wo mk 4) (2 ^ K) * 2 ^ pn wo 4 4 / 2 ^ pn wo 4 4 := by rw [h2]
    _ = _ := Nat.mul_div_cancel _ hp
theorem mk_b {a : Int} (h : a = 1 ∨ a = -1) : a.natAbs < 2147483648 := by rcases h with rfl | rfl <;> decide
theorem wp_inX {wo : Nat → Nat} {mk : Nat → Int} (hw : ∀ i, wo i < 64) (hmk : ∀ i, mk i = 1 ∨ mk i = -1) {words marks : Nat → Int32} (h8 : ∀ i, i < 4 → words i = nI (wo i)) (h9 : ∀ i, i < 4 → wo i ≠ 0 → marks i = iI (mk i)) {s : Nat} (hs : s < 64) {k : Int32 → Prop} (h1 : ip wo mk 4 s = true → k 1) (h0 : ip wo mk 4 s = false → k 0) : wpX1_isInPart words marks (nI s) k := by
  unfold wpX1_isInPart
  refine wloop_n (fun i st => st = nI i ∧ ip wo mk i s = true) 4 ⟨rfl, rfl⟩ ?_ ?_
  · rintro i st again hi ⟨rfl, hf⟩ hag
    rw [wbX1_isInPart_2]
    refine pk_le 4 i (fun z => absurd z (by omega)) (fun _ => ⟨vp_in_nI hi (by omega), ?_⟩)
    rw [nI_clamp (by omega), h8 i hi, nI_1]
    refine pk_eq (wo i) 0 (fun z => hag _ ⟨rfl, by rw [ip, hf]; simp [z]⟩) (fun z => ⟨vp_in_nI hi (by omega), ?_⟩) (ha := by have := hw i; omega)
    refine wp_markX (hw i) hs ⟨vp_in_nI hi (by omega), ?_⟩
    have hb := ch_abs (wo i) s
    rw [h9 i hi z, iI_inj (by omega) (mk_b (hmk i))]
    refine ⟨fun z2 => hag _ ⟨rfl, by rw [ip, hf]; simp [z2]⟩, fun z2 => h0 ?_⟩
    have e1 : ip wo mk (i + 1) s = false := by rw [ip, hf]; simp [z, z2]
    have mono : ∀ m, i + 1 ≤ m → ip wo mk m s = false := by
      intro m
      induction m with
      | zero => intro h; omega
      | succ m ih =>
        intro h
        by_cases e : i + 1 = m + 1
        · rw [← e]; exact e1
        · rw [ip, ih (by omega)]; rfl
    exact mono 4 (by omega)
  · rintro st again ⟨rfl, hf⟩
    rw [wbX1_isInPart_2]
    exact pk_le 4 4 (fun _ => h1 hf) (fun z => absurd z (by omega))
theorem wp_inM {wo : Nat → Nat} {mk : Nat → Int} (hw : ∀ i, wo i < 64) (hmk : ∀ i, mk i = 1 ∨ mk i = -1) {g : Nat → Int32} (h8 : ∀ i, i < 4 → g (71 + i) = nI (wo i)) (h9 : ∀ i, i < 4 → wo i ≠ 0 → g (75 + i) = iI (mk i)) {s : Nat} (hs : s < 64) {k : Int32 → Prop} (h1 : ip wo mk 4 s = true → k 1) (h0 : ip wo mk 4 s = false → k 0) : wpX7_isOfPart g (nI s) k := by
  unfold wpX7_isOfPart
  refine wloop_n (fun i st => st = nI i ∧ ip wo mk i s = true) 4 ⟨rfl, rfl⟩ ?_ ?_
  · rintro i st again hi ⟨rfl, hf⟩ hag
    rw [wbX7_isOfPart_2]
    refine pk_le 4 i (fun z => absurd z (by omega)) (fun _ => ?_)
    rw [show (71 : Int32) + nI i = nI (71 + i) from nI_add 71 i, show (75 : Int32) + nI i = nI (75 + i) from nI_add 75 i, nI_clamp (by omega), nI_clamp (by omega), h8 i hi, nI_1]
    refine ⟨vp_in_nI (by omega) (by omega), pk_eq (wo i) 0 (fun z => hag _ ⟨rfl, by rw [ip, hf]; simp [z]⟩) (fun z => ⟨vp_in_nI (by omega) (by omega), ?_⟩) (ha := by have := hw i; omega)⟩
    refine wp_markM (hw i) hs ⟨vp_in_nI (by omega) (by omega), ?_⟩
    have hb := ch_abs (wo i) s
    rw [h9 i hi z, iI_inj (by omega) (mk_b (hmk i))]
    refine ⟨fun z2 => hag _ ⟨rfl, by rw [ip, hf]; simp [z2]⟩, fun z2 => h0 ?_⟩
    have e1 : ip wo mk (i + 1) s = false := by rw [ip, hf]; simp [z, z2]
    have mono : ∀ m, i + 1 ≤ m → ip wo mk m s = false := by
      intro m
      induction m with
      | zero => intro h; omega
      | succ m ih =>
        intro h
        by_cases e : i + 1 = m + 1
        · rw [← e]; exact e1
        · rw [ip, ih (by omega)]; rfl
    exact mono 4 (by omega)
  · rintro st again ⟨rfl, hf⟩
    rw [wbX7_isOfPart_2]
    exact pk_le 4 4 (fun _ => h1 hf) (fun z => absurd z (by omega))
theorem mbn_le (mb : Nat → Bool) (N : Nat) : mbn mb N ≤ N := cn_le _ _ N
theorem tot_part (p : Nat → Bool) (S m : Nat) : ∀ N, N ≤ S → tot (fun s => if s < S ∧ p s = true then m else 0) N = ((m * mbn p N : Nat) : Int)
  | 0, _ => by show (0 : Int) = ((m * 0 : Nat) : Int); simp
  | N + 1, hN => by
    have ih := tot_part p S m N (by omega)
    have es : tot (fun s => if s < S ∧ p s = true then m else 0) (N + 1) = tot (fun s => if s < S ∧ p s = true then m else 0) N + ((if N < S ∧ p N = true then m else 0 : Nat) : Int) := rfl
    rw [es, ih]
    cases hp : p N with
    | true => rw [mbn_t hp, if_pos ⟨by omega, rfl⟩, Nat.mul_add]; simp
    | false => rw [mbn_f hp, if_neg (fun z => absurd z.2 (by decide))]; simp
theorem shr_tab : ∀ K, K < 7 → ∀ e, e < 5 → nI (2 ^ K) >>> (nI e &&& 31) = nI (2 ^ K / 2 ^ e) := by decide +kernel
theorem lb_step_18 (x : XS) (y : MS) (a1 : Int32) (h : LInv x y) : ∃ bud, bud ≤ 49152 ∧ wpL_18 x y a1 bud (fun x9 y9 => LInv x9 y9 ∧ pot x + bud ≤ pot x9) := by
  refine ⟨0, by omega, ?_⟩
  obtain ⟨hB, hH, hP, hC⟩ := h
  obtain ⟨K, n, te, ti, wo, mk, c, pl, rd, hV, hD, hbg⟩ := BR_open hB
  have hV' := hV
  obtain ⟨⟨hK1, hK6⟩, ⟨hn1, hn5⟩, hte, hdi, hti, htz, htot, hwo, hin, hmk, hc, hpl, hrd⟩ := hV'
  have hD' := hD
  obtain ⟨d1, d2, d3, d4, d5, d6, d7, d8, d9, d10, d11⟩ := hD'
  have h64 := p64 hK6
  have hw6 : ∀ i, wo i < 64 := fun i => by have := hwo i; omega
  have hpn := pn_le wo 4 4
  have hcnt := part_count hK6 hwo hin hmk
  have hml := mbn_le (ip wo mk 4) (2 ^ K)
  -- the reference's count
  have RC : ∀ g, RG g K n te ti wo mk c pl rd → ∀ (b : Int32) (kk : Int32 → Int32 → (Nat → Int32) → (Nat → Int32) → Int32 → Int32 → Prop), (((a1 < (1 : Int32)) → (kk (-1 : Int32) (0 : Int32) g y.1.2.2.2 y.1.1 b)) ∧ (¬ (a1 < (1 : Int32)) → ((((9 : Int32) < a1) → (kk (-1 : Int32) (0 : Int32) g y.1.2.2.2 y.1.1 b)) ∧ (¬ ((9 : Int32) < a1) → ((((nI (mbn (ip wo mk 4) (2 ^ K)) * a1) ≤ (40 : Int32)) → (wpX7_keep g y.1.2.2.2 y.1.1 (fun (t_kept_10 : (Nat → Int32)) (t_keeps_11 : Int32) => wloop (wbX7_part_66 a1 kk b (nI (mbn (ip wo mk 4) (2 ^ K))) t_kept_10 t_keeps_11) ((0 : Int32), g)))) ∧ (¬ ((nI (mbn (ip wo mk 4) (2 ^ K)) * a1) ≤ (40 : Int32)) → (kk (-1 : Int32) (0 : Int32) g y.1.2.2.2 y.1.1 b))))))) → wloop (wbX7_part_13 y.1.1 y.1.2.2.2 a1 kk g b) ((0 : Int32), (0 : Int32)) := by
    intro g hG b kk hk
    refine wloop_n (fun u st => st = (nI (mbn (ip wo mk 4) u), nI u)) (2 ^ K) rfl ?_ ?_
    · rintro u st again hu rfl hag
      rw [wbX7_part_13]
      refine wp_settM (by omega) hG.1 (pk_le (2 ^ K) u (fun z => absurd z (by omega)) (fun _ => ?_))
      rw [nI_1, nI_1]
      refine wp_inM hw6 hmk hG.2.2.2.2.1 hG.2.2.2.2.2.1 (by omega) (fun hi => ⟨fun z => absurd z (by decide), fun _ => hag _ (by rw [mbn_t hi])⟩) (fun hi => ⟨fun _ => hag _ (by rw [mbn_f hi]), fun z => absurd rfl z⟩)
    · rintro st again rfl
      rw [wbX7_part_13]
      exact wp_settM (by omega) hG.1 (pk_le (2 ^ K) (2 ^ K) (fun _ => hk) (fun z => absurd z (by omega)))
  have A : (a1 < 1 ∨ 9 < a1 ∨ ¬ nI (mbn (ip wo mk 4) (2 ^ K)) * a1 ≤ 40) → wpM_18 y a1 (-1) (fun y9 => LInv x y9 ∧ pot x + 0 ≤ pot x) := by
    intro hb1
    unfold wpM_18 wpX7_part
    refine hbg _ (fun g b hb hG => RC g hG b _ ?_)
    have L : LInv x ((y.1.1, b, g, y.1.2.2.2), (0, y.2.1.2), y.2.2) := ⟨Or.inl ⟨hb, K, n, te, ti, wo, mk, c, pl, rd, hV, hD, hG⟩, hH, hP, hC⟩
    refine ⟨fun _ => ⟨fun _ => ⟨L, Nat.le_refl _⟩, fun z => z rfl⟩, fun z1 => ⟨fun _ => ⟨fun _ => ⟨L, Nat.le_refl _⟩, fun z => z rfl⟩, fun z2 => ⟨fun z3 => ?_, fun _ => ⟨fun _ => ⟨L, Nat.le_refl _⟩, fun z => z rfl⟩⟩⟩⟩
    rcases hb1 with h | h | h
    · exact absurd h z1
    · exact absurd h z2
    · exact absurd z3 h
  unfold wpL_18 wpX6_part
  refine ⟨fun z => A (Or.inl z), fun z1 => ⟨fun z2 => ?_, fun z => A (Or.inr (Or.inl (Int32.not_le.1 z)))⟩⟩
  obtain ⟨m, hm, rfl⟩ := nI_of2 (x := a1) (M := 9) (n := 9) rfl (fun z => z1 (Int32.lt_of_lt_of_le z (by decide))) z2
  have hm1 : 1 ≤ m := by
    rcases Nat.eq_zero_or_pos m with e | e
    · subst e; exact absurd (by decide : nI 0 < 1) z1
    · exact e
  refine wp_settX (by omega) d1 (wp_wc hw6 d8 ?_)
  rw [shr_tab K (by omega) _ (by omega), hcnt, pk_mul]
  rw [show nI (mbn (ip wo mk 4) (2 ^ K)) * nI m = nI (m * mbn (ip wo mk 4) (2 ^ K)) by rw [pk_mul, Nat.mul_comm]] at A RC
  have hmul : m * mbn (ip wo mk 4) (2 ^ K) ≤ 9 * 64 := Nat.mul_le_mul hm (by omega)
  refine pk_le (m * mbn (ip wo mk 4) (2 ^ K)) 40 (fun z3 => ?_) (fun z3 => A (Or.inr (Or.inr (nI_ge z3 (by omega)))))
  obtain ⟨h, p, hh, hp, e1, e2, e3, hjj⟩ := hH
  refine wp_keepX hh hp e1 e2 ?_
  unfold wpX1_tryNothing
  refine wp_settX (by omega) d1 ?_
  have htp := tot_part (ip wo mk 4) (2 ^ K) m
  have htS : ∀ s, tot (fun s => if s < 2 ^ K ∧ ip wo mk 4 s = true then m else 0) (s + 1) = tot (fun s => if s < 2 ^ K ∧ ip wo mk 4 s = true then m else 0) s + ((if s < 2 ^ K ∧ ip wo mk 4 s = true then m else 0 : Nat) : Int) := fun s => rfl
  refine wloop_n (fun s st => ∃ f, st = (nI s, iI (tot (fun s => if s < 2 ^ K ∧ ip wo mk 4 s = true then m else 0) s), f) ∧ ∀ u, u < 64 → f u = nI (if u < s ∧ ip wo mk 4 u = true then m else 0)) (2 ^ K) ⟨_, rfl, fun u _ => ?_⟩ ?_ ?_
  · rw [if_neg (fun z => absurd z.1 (Nat.not_lt_zero _))]; rfl
  · rintro s st again hs ⟨f, rfl, hf⟩ hag
    rw [wbX6_part_68]
    refine pk_le (2 ^ K) s (fun z => absurd z (by omega)) (fun _ => ?_)
    refine wp_inX hw6 hmk d8 d9 (by omega) (fun hi => ⟨fun z => absurd z (by decide), fun _ => ?_⟩) (fun hi => ⟨fun _ => ?_, fun z => absurd rfl z⟩)
    · unfold wpX1_tryTimes
      rw [nI_clamp (by omega), hf s (by omega), if_neg (by omega), nI_iI m, nI_iI 0, iI_sub, iI_add, nI_1]
      refine ⟨vp_in_nI (by omega) (by omega), vp_in_nI (by omega) (by omega), hag _ ⟨upd f s (iI m), ?_, fun u hu => ?_⟩⟩
      · rw [htS s, if_pos ⟨hs, hi⟩]; simp
      · by_cases e : u = s
        · subst e; rw [pk_us, if_pos ⟨by omega, hi⟩, nI_iI]
        · rw [pk_un e, hf u hu]
          congr 1
          by_cases e2 : u < s ∧ ip wo mk 4 u = true
          · rw [if_pos e2, if_pos ⟨by omega, e2.2⟩]
          · rw [if_neg e2, if_neg (fun z => e2 ⟨by omega, z.2⟩)]
    · rw [nI_1]
      refine hag _ ⟨f, ?_, fun u hu => ?_⟩
      · rw [htS s, if_neg (fun z => by rw [hi] at z; exact absurd z.2 (by decide))]; simp
      · rw [hf u hu]
        congr 1
        by_cases e2 : u < s ∧ ip wo mk 4 u = true
        · rw [if_pos e2, if_pos ⟨by omega, e2.2⟩]
        · rw [if_neg e2, if_neg (fun z => e2 ⟨by
            by_cases e : u = s
            · subst e; rw [hi] at z; exact absurd z.2 (by decide)
            · omega, z.2⟩)]
  · rintro st again ⟨f, rfl, hf⟩
    rw [wbX6_part_68]
    refine pk_le (2 ^ K) (2 ^ K) (fun _ => ?_) (fun z => absurd z (by omega))
    rw [shr_tab K (by omega) _ (by omega), hcnt, pk_mul]
    unfold wpM_18 wpX7_part
    refine hbg _ (fun g b hb hG => RC g hG b _ ⟨fun z => absurd z z1, fun _ => ⟨fun z => absurd z (Int32.not_lt.2 z2), fun _ => ⟨fun _ => ?_, fun z => absurd (nI_le z3 (by omega)) z⟩⟩⟩)
    have hR : RR x.1 g := ⟨K, n, te, ti, wo, mk, c, pl, rd, hV, hD, hG⟩
    obtain ⟨g1, g2, g3, g4, g5, g6, g7, g8, g9⟩ := hG
    refine wp_keepM hh e3 (fun kept' hk => ?_)
    refine wloop_n (fun s st => ∃ f, st = (nI s, f) ∧ (∀ q, q < 7 ∨ 71 ≤ q → f q = g q) ∧ ∀ u, u < s → f (7 + u) = nI (if u < 2 ^ K ∧ ip wo mk 4 u = true then m else 0)) 64 ⟨g, rfl, fun _ _ => rfl, fun u hu => absurd hu (Nat.not_lt_zero _)⟩ ?_ ?_
    · rintro s st again hs ⟨f, rfl, hf, hf2⟩ hag
      rw [wbX7_part_66]
      refine pk_le 64 s (fun z => absurd z (by omega)) (fun _ => ?_)
      rw [show (7 : Int32) + nI s = nI (7 + s) from nI_add 7 s, nI_clamp (by omega), nI_1]
      have fin : ∀ v, v = (if s < 2 ^ K ∧ ip wo mk 4 s = true then m else 0) → again (nI (s + 1), upd f (7 + s) (nI v)) := fun v hv => by
        refine hag _ ⟨_, rfl, fun q hq => ?_, fun u hu => ?_⟩
        · rw [pk_un (by omega), hf q hq]
        · by_cases e : u = s
          · subst e; rw [pk_us, hv]
          · rw [pk_un (by omega), hf2 u (by omega)]
      refine wp_isM (K := K) (by omega) (by rw [hf 0 (by omega)]; exact g1) _ (fun j hj e => ⟨fun z => absurd z (by decide), fun _ => ?_⟩) (fun hno => ⟨fun _ => ⟨vp_in_nI (by omega) (by omega), fin 0 ?_⟩, fun z => absurd rfl z⟩)
      · have es : s = j := (nI_eq (by omega) (by omega)).1 e
        refine wp_inM hw6 hmk (fun i hi => by rw [hf _ (by omega)]; exact g5 i hi) (fun i hi h0 => by rw [hf _ (by omega)]; exact g6 i hi h0) hs (fun hi => ⟨fun z => absurd z (by decide), fun _ => ⟨vp_in_nI (by omega) (by omega), fin m ?_⟩⟩) (fun hi => ⟨fun _ => ⟨vp_in_nI (by omega) (by omega), fin 0 ?_⟩, fun z => absurd rfl z⟩)
        · rw [if_pos ⟨by omega, hi⟩]
        · rw [if_neg (fun z => by rw [hi] at z; exact absurd z.2 (by decide))]
      · rw [if_neg (fun z => hno s z.1 rfl)]
    · rintro st again ⟨f2, rfl, hf1, hf2⟩
      rw [wbX7_part_66, show nI (mbn (ip wo mk 4) (2 ^ K)) * nI m = nI (m * mbn (ip wo mk 4) (2 ^ K)) by rw [pk_mul, Nat.mul_comm]]
      refine pk_le 64 64 (fun _ => ⟨fun _ => ⟨⟨Or.inl ⟨hb, ?_⟩, HI_keep hh hp hjj hR hk, hP, hC⟩, Nat.le_refl _⟩, fun z => z rfl⟩) (fun z => absurd z (by omega))
      show RR (x.1.1, x.1.2.1, iI (tot (fun s => if s < 2 ^ K ∧ ip wo mk 4 s = true then m else 0) (2 ^ K)), x.1.2.2.2.1, x.1.2.2.2.2.1, x.1.2.2.2.2.2.1, f, x.1.2.2.2.2.2.2.2) f2
      have hz : ∀ s, 2 ^ K ≤ s → (fun s => if s < 2 ^ K ∧ ip wo mk 4 s = true then m else 0) s = 0 := fun s hs => if_neg (fun z => by omega)
      have ht2 := tot_z hz (N := 64) h64
      refine ⟨K, n, te, fun s => if s < 2 ^ K ∧ ip wo mk 4 s = true then m else 0, wo, mk, c, pl, rd, ⟨⟨hK1, hK6⟩, ⟨hn1, hn5⟩, hte, hdi, fun s => ?_, hz, ?_, hwo, hin, hmk, hc, hpl, hrd⟩, ⟨d1, d2, by rw [ht2], d4, d5, d6, hf, d8, d9, d10, d11⟩, ⟨by rw [hf1 _ (by omega), g1], by rw [hf1 _ (by omega), g2], fun i hi => by rw [hf1 _ (by omega), g3 i hi], fun s hs => hf2 s hs, fun i hi => by rw [hf1 _ (by omega), g5 i hi], fun i hi h0 => by rw [hf1 _ (by omega), g6 i hi h0], by rw [hf1 _ (by omega), g7], fun s hs => by rw [hf1 _ (by omega), g8 s hs], fun s hs => by rw [hf1 _ (by omega), g9 s hs]⟩⟩
      · dsimp only; split <;> omega
      · rw [ht2, htp (2 ^ K) (Nat.le_refl _)]; omega
