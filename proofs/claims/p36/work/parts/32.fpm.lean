/-! doubles: exact steps -/
def en (E T : Nat) : Nat := E * 2 ^ 52 + T
