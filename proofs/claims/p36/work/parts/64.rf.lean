/-! the reference: divisors, the basis, tests, factors -/
def nL (m : Nat) : Int64 := Int64.ofInt (m : Int)
theorem nL_toInt {m : Nat} (h : m < 2 ^ 63) : (nL m).toInt = (m : Int) := Int64.toInt_ofInt_of_le (by omega) (by omega)
theorem nL_inj {a b : Nat} (ha : a < 2 ^ 63) (hb : b < 2 ^ 63) (h : nL a = nL b) : a = b := by
  have := congrArg Int64.toInt h
  rw [nL_toInt ha, nL_toInt hb] at this
  omega
theorem bm64 {x : Int} (h1 : -2 ^ 63 ≤ x) (h2 : x < 2 ^ 63) : x.bmod (2 ^ 64) = x := by
  rw [← Int64.toInt_ofInt_of_le h1 h2, Int64.toInt_ofInt]
  exact Int.bmod_bmod
theorem nL_div {x y : Nat} (hx : x < 2 ^ 63) (hy : y < 2 ^ 63) : nL x / nL y = nL (x / y) := by
  have h3 : x / y < 2 ^ 63 := Nat.lt_of_le_of_lt (Nat.div_le_self x y) hx
  apply Int64.toInt_inj.mp
  rw [Int64.toInt_div, nL_toInt hx, nL_toInt hy, nL_toInt h3, ← Int.ofNat_tdiv]
  generalize x / y = z at h3
  exact bm64 (by omega) (by omega)
theorem nL_rem {x y : Nat} (hx : x < 2 ^ 63) (hy : y < 2 ^ 63) : nL x - nL x / nL y * nL y = nL (x % y) := by
  rw [nL_div hx hy]
  unfold nL
  rw [← Int64.ofInt_mul, ← Int64.ofInt_sub]
  congr 1
  have h := Nat.div_add_mod x y
  have h2 : (x : Int) = ((y * (x / y) + x % y : Nat) : Int) := by rw [h]
  rw [h2, Int.natCast_add, Int.natCast_mul]
  rw [Int.mul_comm, Int.add_comm, Int.add_sub_cancel]
theorem labs_n {x : Int64} (h : x ≠ Int64.minValue) : labs x = nL x.toInt.natAbs := by
  have hb := Int64.le_toInt x
  have hb2 := Int64.toInt_lt x
  have hm : x.toInt ≠ -2 ^ 63 := fun e => h (Int64.toInt_inj.mp (by rw [e]; rfl))
  unfold labs
  by_cases e : x < 0
  · rw [if_pos e]
    have e2 : x.toInt < 0 := Int64.lt_iff_toInt_lt.mp e
    apply Int64.toInt_inj.mp
    rw [Int64.toInt_neg, nL_toInt (by omega), bm64 (by omega) (by omega)]
    omega
  · rw [if_neg e]
    have e2 : ¬ x.toInt < 0 := fun z => e (Int64.lt_iff_toInt_lt.mpr z)
    apply Int64.toInt_inj.mp
    rw [nL_toInt (by omega)]
    omega
theorem natAbs_lt {x : Int64} (h : x ≠ Int64.minValue) : x.toInt.natAbs < 2 ^ 63 := by
  have hb := Int64.le_toInt x
  have hb2 := Int64.toInt_lt x
  have hm : x.toInt ≠ -2 ^ 63 := fun e => h (Int64.toInt_inj.mp (by rw [e]; rfl))
  omega
/-- the common divisor of a vector's numbers -/
def gF (G : GS) (h : Nat) : Nat → Nat
  | 0 => 0
  | d + 1 => Nat.gcd (gF G h d) (rawF G h d).toInt.natAbs
def bsR (G : GS) (n h d : Nat) : Int32 := (rawF G h d / (if G.2.2.1 < 0 then -(nL (gF G h n)) else nL (gF G h n))).toInt32
def baG (G : GS) (n p d : Nat) : Int32 := match hdO G n p with
  | none => NON
  | some h => bsR G n h d
/-- the numbers of the vectors are no least ones -/
def rwOK (G : GS) (n : Nat) : Prop := ∀ h, h < n → G.2.2.2 h = none → ∀ d, d < n → rawF G h d ≠ Int64.minValue
