theorem cnz_le (f : Nat → Int32) : ∀ k, cnz f k ≤ k
  | 0 => Nat.le_refl _
  | k + 1 => by
    have := cnz_le f k
    unfold cnz
    split <;> omega
def shB (f : Nat → Int32) (n : Nat) : Int64 := sumL (fun k => (iabs (f k)).toInt64) n
def shA (f : Nat → Int32) (g : Int32) (n : Nat) : Int64 := sumL (fun k => if nI (pc5 k) = g then (iabs (f k)).toInt64 else 0) n
def shQ (a b : Int64) : UInt64 := if b = 0 then 0 else FP.ddiv (FP.l2d a) (FP.l2d b)
