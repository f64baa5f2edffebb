def stI (j : Nat) : Int32 := nI (j * (j + 1) / 2)
/-- loops in the wp: the body gets the state and what comes if it goes round -/
def wl {S : Type} (body : S → (S → Prop) → Prop) : Nat → S → Prop
  | 0, _ => False
  | n + 1, s => body s (wl body n)
def wloop {S : Type} (body : S → (S → Prop) → Prop) (s : S) : Prop := ∃ n, wl body n s

/-- Integer.bitCount, as the JDK has it -/
def vbc (x : Int32) : Int32 :=
  let u (a : Int32) (n : Int32) : Int32 := (a.toUInt32 >>> (n.toUInt32 &&& Int32.toUInt32 31)).toInt32
  let x1 := x - (u x 1 &&& 1431655765)
  let x2 := (x1 &&& 858993459) + (u x1 2 &&& 858993459)
  let x3 := (x2 + u x2 4) &&& 252645135
  let x4 := x3 + u x3 8
  let x5 := x4 + u x4 16
  x5 &&& 63
def vfillI (f : Nat → Int32) (n : Nat) (v : Int32) : Nat → Int32 := fun j => if j < n then v else f j
def vfillL (f : Nat → Int64) (n : Nat) (v : Int64) : Nat → Int64 := fun j => if j < n then v else f j

abbrev DS : Type := Int32 × Int32 × Int32 × Int32 × Int64 × (Nat → Int32) × (Nat → Int32) × (Nat → Int32) × (Nat → Int32) × (Nat → Int32) × (Nat → Int32)
def ds0 : DS := (3, 1, 0, 0, 0, fun _ => 0, fun _ => 0, fun _ => 0, fun _ => 0, fun _ => 0, fun _ => 0)
/-- a truth that a boolean field or answer may hold -/
def vz (v : Int32) : Prop := narrow .boolean (.int v) = .int v ∧ fits .boolean (.int v) = true
