def LInv (x : XS) (y : MS) : Prop := sorry
def pot (x : XS) : Nat := sorry
theorem lb_pot (x : XS) (y : MS) (h : LInv x y) : pot x ≤ 147456 := sorry
theorem lb_step_0 (x : XS) (y : MS) (a1 : Int32) (h : LInv x y) : ∃ bud, bud ≤ 49152 ∧ wpL_0 x y a1 bud (fun x9 y9 => LInv x9 y9 ∧ pot x + bud ≤ pot x9) := sorry
theorem lb_step_1 (x : XS) (y : MS) (a1 : Int32) (h : LInv x y) : ∃ bud, bud ≤ 49152 ∧ wpL_1 x y a1 bud (fun x9 y9 => LInv x9 y9 ∧ pot x + bud ≤ pot x9) := sorry
theorem lb_step_2 (x : XS) (y : MS) (a1 : Int32) (h : LInv x y) : ∃ bud, bud ≤ 49152 ∧ wpL_2 x y a1 bud (fun x9 y9 => LInv x9 y9 ∧ pot x + bud ≤ pot x9) := sorry
theorem lb_step_3 (x : XS) (y : MS) (a1 : Int32) (a2 : Int32) (h : LInv x y) : ∃ bud, bud ≤ 49152 ∧ wpL_3 x y a1 a2 bud (fun x9 y9 => LInv x9 y9 ∧ pot x + bud ≤ pot x9) := sorry
theorem lb_step_4 (x : XS) (y : MS)  (h : LInv x y) : ∃ bud, bud ≤ 49152 ∧ wpL_4 x y  bud (fun x9 y9 => LInv x9 y9 ∧ pot x + bud ≤ pot x9) := sorry
theorem lb_step_5 (x : XS) (y : MS) (a1 : Int32) (h : LInv x y) : ∃ bud, bud ≤ 49152 ∧ wpL_5 x y a1 bud (fun x9 y9 => LInv x9 y9 ∧ pot x + bud ≤ pot x9) := sorry
theorem lb_step_6 (x : XS) (y : MS) (a1 : Int32) (a2 : Int32) (h : LInv x y) : ∃ bud, bud ≤ 49152 ∧ wpL_6 x y a1 a2 bud (fun x9 y9 => LInv x9 y9 ∧ pot x + bud ≤ pot x9) := sorry
theorem lb_step_7 (x : XS) (y : MS) (a1 : Int32) (a2 : Int32) (h : LInv x y) : ∃ bud, bud ≤ 49152 ∧ wpL_7 x y a1 a2 bud (fun x9 y9 => LInv x9 y9 ∧ pot x + bud ≤ pot x9) := sorry
theorem lb_step_8 (x : XS) (y : MS)  (h : LInv x y) : ∃ bud, bud ≤ 49152 ∧ wpL_8 x y  bud (fun x9 y9 => LInv x9 y9 ∧ pot x + bud ≤ pot x9) := sorry
theorem lb_step_9 (x : XS) (y : MS) (a1 : Int32) (a2 : Int32) (a3 : Int32) (a4 : Int32) (a5 : Int32) (h : LInv x y) : ∃ bud, bud ≤ 49152 ∧ wpL_9 x y a1 a2 a3 a4 a5 bud (fun x9 y9 => LInv x9 y9 ∧ pot x + bud ≤ pot x9) := sorry
theorem lb_step_10 (x : XS) (y : MS) (a1 : Int32) (a2 : Int32) (a3 : Int32) (a4 : Int32) (a5 : Int32) (a6 : Int32) (h : LInv x y) : ∃ bud, bud ≤ 49152 ∧ wpL_10 x y a1 a2 a3 a4 a5 a6 bud (fun x9 y9 => LInv x9 y9 ∧ pot x + bud ≤ pot x9) := sorry
theorem lb_step_11 (x : XS) (y : MS) (a1 : Int32) (h : LInv x y) : ∃ bud, bud ≤ 49152 ∧ wpL_11 x y a1 bud (fun x9 y9 => LInv x9 y9 ∧ pot x + bud ≤ pot x9) := sorry
theorem lb_step_12 (x : XS) (y : MS)  (h : LInv x y) : ∃ bud, bud ≤ 49152 ∧ wpL_12 x y  bud (fun x9 y9 => LInv x9 y9 ∧ pot x + bud ≤ pot x9) := sorry
theorem lb_step_13 (x : XS) (y : MS) (a1 : Int32) (h : LInv x y) : ∃ bud, bud ≤ 49152 ∧ wpL_13 x y a1 bud (fun x9 y9 => LInv x9 y9 ∧ pot x + bud ≤ pot x9) := sorry
theorem lb_step_14 (x : XS) (y : MS) (a1 : Int32) (h : LInv x y) : ∃ bud, bud ≤ 49152 ∧ wpL_14 x y a1 bud (fun x9 y9 => LInv x9 y9 ∧ pot x + bud ≤ pot x9) := sorry
theorem lb_step_15 (x : XS) (y : MS)  (h : LInv x y) : ∃ bud, bud ≤ 49152 ∧ wpL_15 x y  bud (fun x9 y9 => LInv x9 y9 ∧ pot x + bud ≤ pot x9) := sorry
theorem lb_step_16 (x : XS) (y : MS)  (h : LInv x y) : ∃ bud, bud ≤ 49152 ∧ wpL_16 x y  bud (fun x9 y9 => LInv x9 y9 ∧ pot x + bud ≤ pot x9) := sorry
theorem lb_step_17 (x : XS) (y : MS) (a1 : Int32) (a2 : Int32) (a3 : Int32) (h : LInv x y) : ∃ bud, bud ≤ 49152 ∧ wpL_17 x y a1 a2 a3 bud (fun x9 y9 => LInv x9 y9 ∧ pot x + bud ≤ pot x9) := sorry
theorem lb_step_18 (x : XS) (y : MS) (a1 : Int32) (h : LInv x y) : ∃ bud, bud ≤ 49152 ∧ wpL_18 x y a1 bud (fun x9 y9 => LInv x9 y9 ∧ pot x + bud ≤ pot x9) := sorry
theorem lb_step_19 (x : XS) (y : MS) (a1 : Int32) (h : LInv x y) : ∃ bud, bud ≤ 49152 ∧ wpL_19 x y a1 bud (fun x9 y9 => LInv x9 y9 ∧ pot x + bud ≤ pot x9) := sorry
theorem lb_step_20 (x : XS) (y : MS) (a1 : Int32) (a2 : Int32) (h : LInv x y) : ∃ bud, bud ≤ 49152 ∧ wpL_20 x y a1 a2 bud (fun x9 y9 => LInv x9 y9 ∧ pot x + bud ≤ pot x9) := sorry
theorem lb_step_21 (x : XS) (y : MS) (a1 : Int32) (h : LInv x y) : ∃ bud, bud ≤ 49152 ∧ wpL_21 x y a1 bud (fun x9 y9 => LInv x9 y9 ∧ pot x + bud ≤ pot x9) := sorry
theorem lb_step_22 (x : XS) (y : MS) (a1 : Int32) (h : LInv x y) : ∃ bud, bud ≤ 49152 ∧ wpL_22 x y a1 bud (fun x9 y9 => LInv x9 y9 ∧ pot x + bud ≤ pot x9) := sorry
theorem lb_step_23 (x : XS) (y : MS)  (h : LInv x y) : ∃ bud, bud ≤ 49152 ∧ wpL_23 x y  bud (fun x9 y9 => LInv x9 y9 ∧ pot x + bud ≤ pot x9) := sorry
theorem lb_step_24 (x : XS) (y : MS) (a1 : Int32) (h : LInv x y) : ∃ bud, bud ≤ 49152 ∧ wpL_24 x y a1 bud (fun x9 y9 => LInv x9 y9 ∧ pot x + bud ≤ pot x9) := sorry
theorem lb_step_25 (x : XS) (y : MS) (a1 : Int32) (a2 : Int32) (h : LInv x y) : ∃ bud, bud ≤ 49152 ∧ wpL_25 x y a1 a2 bud (fun x9 y9 => LInv x9 y9 ∧ pot x + bud ≤ pot x9) := sorry
theorem lb_step_26 (x : XS) (y : MS)  (h : LInv x y) : ∃ bud, bud ≤ 49152 ∧ wpL_26 x y  bud (fun x9 y9 => LInv x9 y9 ∧ pot x + bud ≤ pot x9) := sorry
theorem lb_step_27 (x : XS) (y : MS) (a1 : Int32) (a2 : Int32) (a3 : Int32) (a4 : Int32) (a5 : Int32) (a6 : Int32) (h : LInv x y) : ∃ bud, bud ≤ 49152 ∧ wpL_27 x y a1 a2 a3 a4 a5 a6 bud (fun x9 y9 => LInv x9 y9 ∧ pot x + bud ≤ pot x9) := sorry
theorem lb_step_28 (x : XS) (y : MS) (a1 : Int32) (h : LInv x y) : ∃ bud, bud ≤ 49152 ∧ wpL_28 x y a1 bud (fun x9 y9 => LInv x9 y9 ∧ pot x + bud ≤ pot x9) := sorry
theorem lb_step_29 (x : XS) (y : MS)  (h : LInv x y) : ∃ bud, bud ≤ 49152 ∧ wpL_29 x y  bud (fun x9 y9 => LInv x9 y9 ∧ pot x + bud ≤ pot x9) := sorry
theorem lb_init (a : Nat) : LInv (x0 a) y0 := sorry
