/-- the lines of a form -/
def lnF (f : Nat → Int32) (n k d : Nat) : Int64 := if k < 2 ^ n ∧ k.testBit d = true then sg (odT (2 ^ d) (k ^^^ 2 ^ d)) (f (k ^^^ 2 ^ d)).toInt64 else 0
/-- two lines exchanged -/
def xcA (A : VM) (a b : Nat) : VM := fun k d => if k = b then A a d else if k = a then A b d else A k d
/-- a column cleared by the line pv -/
def ccA (A : VM) (pv c : Nat) (b : Int64) : VM := fun k d => if k = pv then A k d else (A pv c * A k d - A k c * A pv d) / b
