/-! the digest -/
def hl (g : Nat → Int64) : Nat → Int64 → Int64
  | 0, h => h
  | k + 1, h => 31 * hl g k h + g k
def hm (g : Nat → Nat → Int64) (n : Nat) : Nat → Int64 → Int64
  | 0, h => h
  | r + 1, h => hl (g r) n (hm g n r h)
