section FAs
variable {f g : Nat → Int32} {n : Nat}
theorem iabs_n {x : Int32} (h1 : -100000000 ≤ x.toInt) (h2 : x.toInt ≤ 100000000) : (iabs x).toInt64 = Int64.ofInt (x.toInt.natAbs : Int) := by
  apply Int64.toInt_inj.mp
  rw [Int64.toInt_ofInt_of_le (by omega) (by omega), Int32.toInt_toInt64]
  unfold iabs
  by_cases e : x < 0
  · rw [if_pos e]
    have e2 : x.toInt < 0 := Int32.lt_iff_toInt_lt.mp e
    rw [Int32.toInt_neg, Int.bmod_eq_of_le (by omega) (by omega)]
    omega
  · rw [if_neg e]
    have e2 : ¬ x.toInt < 0 := fun z => e (Int32.lt_iff_toInt_lt.mpr z)
    omega
end FAs
