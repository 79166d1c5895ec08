/-! doubles: exact steps -/
def en (E T : Nat) : Nat := E * 2 ^ 52 + T
theorem fd_dec {E T : Nat} (h1 : 1 ≤ E) (h2 : E ≤ 2046) (hT : T < 2 ^ 52) : FP.Core.decode FP.Core.b64 (en E T) = .fin false (2 ^ 52 + T) ((E : Int) - 1075) := by
  have e1 : FP.Core.fieldE FP.Core.b64 (en E T) = E := by
    show (E * 2 ^ 52 + T) / 2 ^ 52 % 2 ^ 11 = E
    omega
  have e2 : FP.Core.fieldT FP.Core.b64 (en E T) = T := by
    show (E * 2 ^ 52 + T) % 2 ^ 52 = T
    omega
  have e3 : FP.Core.fieldS FP.Core.b64 (en E T) = false := by
    show (((E * 2 ^ 52 + T) / 2 ^ 52 / 2 ^ 11 % 2) == 1) = false
    have : (E * 2 ^ 52 + T) / 2 ^ 52 / 2 ^ 11 % 2 = 0 := by omega
    rw [this]; rfl
  unfold FP.Core.decode
  rw [e1, e2, e3, if_neg (show ¬ E = FP.Core.b64.exps - 1 from by show ¬ E = 2 ^ 11 - 1; omega), if_neg (show ¬ E = 0 by omega)]
  show FP.Core.Datum.fin false (2 ^ 52 + T) (-1074 + ((E : Int) - 1)) = _
  congr 1
  omega
theorem fd_enc {c : Nat} {q : Int} (h1 : 2 ^ 52 ≤ c) (hq : -1074 ≤ q) : FP.Core.encode FP.Core.b64 (.fin false c q) = en (q + 1075).toNat (c - 2 ^ 52) := by
  unfold FP.Core.encode
  show (if c < 2 ^ 52 then _ else ((0 * 2 ^ 11 + ((q - (-1074)).toNat + 1)) * 2 ^ 52 + (c - 2 ^ 52))) = (q + 1075).toNat * 2 ^ 52 + (c - 2 ^ 52)
  rw [if_neg (by omega), show (q + 1075).toNat = (q - (-1074)).toNat + 1 by omega]
  omega
theorem fd_enc0 {q : Int} : FP.Core.encode FP.Core.b64 (.fin false 0 q) = 0 := rfl
theorem fd_lead {num k : Nat} (h : 2 ^ k ≤ num) (h2 : num < 2 ^ (k + 1)) : FP.Core.leading num 1 = (k : Int) := by
  have hn : num ≠ 0 := by
    have := Nat.pos_of_ne_zero (show (2 : Nat) ^ k ≠ 0 by simp)
    omega
  have hl : num.log2 = k := (Nat.log2_eq_iff hn).mpr ⟨h, h2⟩
  unfold FP.Core.leading
  rw [hl]
  show (if 1 * 2 ^ ((k : Int) - 0).toNat ≤ num * 2 ^ (-((k : Int) - 0)).toNat then ((k : Int) - 0) else ((k : Int) - 0) - 1) = _
  rw [show ((k : Int) - 0).toNat = k by omega, show (-((k : Int) - 0)).toNat = 0 by omega, if_pos (by omega)]
  omega
theorem fd_near {c d : Nat} (hd : 0 < d) : FP.Core.nearest (c * d) d = c := by
  unfold FP.Core.nearest
  rw [Nat.mul_mod_left, if_pos (by omega), Nat.mul_div_cancel _ hd]
theorem fd_settle {c : Nat} {q : Int} (h : c < 2 ^ 53) (hq : q ≤ 971) : FP.Core.settle FP.Core.b64 false c q = .fin false c q := by
  unfold FP.Core.settle
  show (if c < 2 ^ 53 then FP.Core.bound FP.Core.b64 false c q else _) = _
  rw [if_pos h]
  unfold FP.Core.bound
  show (if q ≤ 971 then _ else _) = _
  rw [if_pos hq]
theorem fd_rA {c s : Nat} {e q : Int} (h1 : 2 ^ 52 ≤ c) (h2 : c < 2 ^ 53) (he : q = e + s) (hq : -1074 ≤ q) (hq2 : q ≤ 971) : FP.Core.roundRatio FP.Core.b64 false (c * 2 ^ s) 1 e = .fin false c q := by
  have hs : 0 < 2 ^ s := Nat.pos_of_ne_zero (by simp)
  have hc0 : ¬ c * 2 ^ s = 0 := by
    intro z
    rcases Nat.mul_eq_zero.mp z with z | z <;> omega
  have hL : FP.Core.leading (c * 2 ^ s) 1 = ((52 + s : Nat) : Int) := fd_lead (by rw [Nat.pow_add]; exact Nat.mul_le_mul_right _ h1) (by
    rw [show 52 + s + 1 = 53 + s by omega, Nat.pow_add]
    exact Nat.mul_lt_mul_of_pos_right h2 hs)
  have hQ : FP.Core.quantum FP.Core.b64 (c * 2 ^ s) 1 e = q := by
    unfold FP.Core.quantum
    rw [hL]
    show max (-1074) (((52 + s : Nat) : Int) + e - (((53 : Nat) : Int) - 1)) = q
    omega
  unfold FP.Core.roundRatio
  rw [if_neg hc0, hQ]
  unfold FP.Core.roundAt FP.Core.unitsNum FP.Core.unitsDen
  rw [show (e - q).toNat = 0 by omega, show (q - e).toNat = s by omega, Nat.pow_zero, Nat.mul_one, Nat.one_mul, fd_near hs]
  exact fd_settle h2 hq2
theorem fd_rB {num s : Nat} {e q : Int} (h1 : 2 ^ 52 ≤ num * 2 ^ s) (h2 : num * 2 ^ s < 2 ^ 53) (hs : s ≤ 52) (he : q = e - s) (hq : -1074 ≤ q) (hq2 : q ≤ 971) : FP.Core.roundRatio FP.Core.b64 false num 1 e = .fin false (num * 2 ^ s) q := by
  have hs' : 0 < 2 ^ s := Nat.pos_of_ne_zero (by simp)
  have hc0 : ¬ num = 0 := by
    intro z
    subst z
    omega
  have hL : FP.Core.leading num 1 = ((52 - s : Nat) : Int) := fd_lead (by
    have : 2 ^ (52 - s) * 2 ^ s ≤ num * 2 ^ s := by rw [← Nat.pow_add, Nat.sub_add_cancel hs]; exact h1
    exact Nat.le_of_mul_le_mul_right this hs') (by
    have : num * 2 ^ s < 2 ^ (52 - s + 1) * 2 ^ s := by rw [← Nat.pow_add, show 52 - s + 1 + s = 53 by omega]; exact h2
    exact Nat.lt_of_mul_lt_mul_right this)
  have hQ : FP.Core.quantum FP.Core.b64 num 1 e = q := by
    unfold FP.Core.quantum
    rw [hL]
    show max (-1074) (((52 - s : Nat) : Int) + e - (((53 : Nat) : Int) - 1)) = q
    omega
  unfold FP.Core.roundRatio
  rw [if_neg hc0, hQ]
  unfold FP.Core.roundAt FP.Core.unitsNum FP.Core.unitsDen
  rw [show (e - q).toNat = s by omega, show (q - e).toNat = 0 by omega, Nat.pow_zero, Nat.one_mul]
  have := fd_near (c := num * 2 ^ s) (d := 1) (by omega)
  rw [Nat.mul_one] at this
  rw [this]
  exact fd_settle h2 hq2
/-- a number below 2^53, scaled to 53 digits -/
theorem fd_norm {n : Nat} (h0 : 0 < n) (h : n < 2 ^ 53) : ∃ s, s ≤ 52 ∧ 2 ^ 52 ≤ n * 2 ^ s ∧ n * 2 ^ s < 2 ^ 53 := by
  have hl := Nat.log2_self_le (n := n) (by omega)
  have hu := Nat.lt_log2_self (n := n)
  have hk : n.log2 < 53 := (Nat.log2_lt (by omega)).mpr h
  refine ⟨52 - n.log2, by omega, ?_, ?_⟩
  · calc 2 ^ 52 = 2 ^ n.log2 * 2 ^ (52 - n.log2) := by rw [← Nat.pow_add]; congr 1; omega
      _ ≤ n * 2 ^ (52 - n.log2) := Nat.mul_le_mul_right _ hl
  · calc n * 2 ^ (52 - n.log2) < 2 ^ (n.log2 + 1) * 2 ^ (52 - n.log2) := Nat.mul_lt_mul_of_pos_right hu (Nat.pos_of_ne_zero (by simp))
      _ = 2 ^ 53 := by rw [← Nat.pow_add]; congr 1; omega
def u64 (n : Nat) : UInt64 := UInt64.ofNat n
theorem u64_n {n : Nat} (h : n < 2 ^ 64) : (u64 n).toNat = n := UInt64.toNat_ofNat_of_lt' h
theorem en_lt {E T : Nat} (h2 : E ≤ 2046) (hT : T < 2 ^ 52) : en E T < 2 ^ 63 - 2 ^ 52 := by unfold en; omega
theorem fd_two {E T : Nat} (h1 : 1 ≤ E) (h2 : E ≤ 2045) (hT : T < 2 ^ 52) : FP.dmul (u64 (en E T)) 4611686018427387904 = u64 (en (E + 1) T) := by
  have hl := en_lt (E := E) (by omega) hT
  show UInt64.ofNat (FP.Core.mul FP.Core.b64 (u64 (en E T)).toNat 4611686018427387904) = _
  rw [u64_n (by omega)]
  unfold FP.Core.mul
  rw [fd_dec h1 (by omega) hT, show FP.Core.decode FP.Core.b64 4611686018427387904 = .fin false (2 ^ 52) (-51) by decide +kernel]
  show UInt64.ofNat (FP.Core.encode FP.Core.b64 (FP.Core.roundRatio FP.Core.b64 false ((2 ^ 52 + T) * 2 ^ 52) 1 ((E : Int) - 1075 + -51))) = _
  rw [fd_rA (q := (E : Int) - 1074) (by omega) (by omega) (by omega) (by omega) (by omega), fd_enc (by omega) (by omega), show ((E : Int) - 1074 + 1075).toNat = E + 1 by omega, Nat.add_sub_cancel_left]
  rfl
theorem fd_sub1 {T : Nat} (hT : T < 2 ^ 52) : FP.Core.sub FP.Core.b64 (en 1023 T) 4607182418800017408 = FP.Core.encode FP.Core.b64 (FP.Core.roundRatio FP.Core.b64 false T 1 (-52)) := by
  unfold FP.Core.sub
  rw [fd_dec (by decide) (by decide) hT, show FP.Core.decode FP.Core.b64 4607182418800017408 = .fin false (2 ^ 52) (-52) by decide +kernel]
  have e1 : FP.Core.sumUnits false (2 ^ 52 + T) (((1023 : Nat) : Int) - 1075) (!false) (2 ^ 52) (-52) (min (((1023 : Nat) : Int) - 1075) (-52)) = (T : Int) := by
    show (((2 ^ 52 + T) * 2 ^ ((-52 : Int) - -52).toNat : Nat) : Int) + -((2 ^ 52 * 2 ^ ((-52 : Int) - -52).toNat : Nat) : Int) = T
    rw [show ((-52 : Int) - -52).toNat = 0 by decide]
    omega
  have e2 : FP.Core.sumSign false (!false) (T : Int) = false := by
    unfold FP.Core.sumSign
    split
    · rfl
    · exact decide_eq_false (by omega)
  show FP.Core.encode FP.Core.b64 (FP.Core.round FP.Core.b64 (.fin (FP.Core.sumSign false (!false) (FP.Core.sumUnits false (2 ^ 52 + T) (((1023 : Nat) : Int) - 1075) (!false) (2 ^ 52) (-52) (min (((1023 : Nat) : Int) - 1075) (-52)))) (FP.Core.sumUnits false (2 ^ 52 + T) (((1023 : Nat) : Int) - 1075) (!false) (2 ^ 52) (-52) (min (((1023 : Nat) : Int) - 1075) (-52))).natAbs (min (((1023 : Nat) : Int) - 1075) (-52)))) = _
  rw [e1, e2]
  rfl
/-- the last step of the bits: the tail comes out -/
theorem fd_tail {T : Nat} (hT : T < 2 ^ 52) : okd (FP.dsub (u64 (en 1023 T)) 4607182418800017408) = true ∧ okd (FP.dmul (FP.dsub (u64 (en 1023 T)) 4607182418800017408) 4841369599423283200) = true ∧ FP.d2l (FP.dmul (FP.dsub (u64 (en 1023 T)) 4607182418800017408) 4841369599423283200) = Int64.ofInt T := by
  have hl := en_lt (E := 1023) (by omega) hT
  have e0 : FP.dsub (u64 (en 1023 T)) 4607182418800017408 = u64 (FP.Core.encode FP.Core.b64 (FP.Core.roundRatio FP.Core.b64 false T 1 (-52))) := by
    show UInt64.ofNat (FP.Core.sub FP.Core.b64 (u64 (en 1023 T)).toNat 4607182418800017408) = _
    rw [u64_n (by omega), fd_sub1 hT]
    rfl
  rw [e0]
  by_cases hT0 : T = 0
  · subst hT0
    decide +kernel
  · obtain ⟨s, hs, g1, g2⟩ := fd_norm (n := T) (by omega) (by omega)
    rw [fd_rB (q := -52 - s) g1 g2 hs (by omega) (by omega) (by omega), fd_enc g1 (by omega)]
    have hE : ((-52 : Int) - s + 1075).toNat = 1023 - s := by omega
    rw [hE]
    have hT2 : T * 2 ^ s - 2 ^ 52 < 2 ^ 52 := by omega
    have hl2 := en_lt (E := 1023 - s) (T := T * 2 ^ s - 2 ^ 52) (by omega) hT2
    have hok : ∀ n : Nat, n < 2 ^ 63 - 2 ^ 52 → okd (u64 n) = true := fun n hn => by
      unfold okd
      refine decide_eq_true ?_
      rw [UInt64.le_iff_toNat_le, UInt64.toNat_and, u64_n (by omega)]
      exact Nat.le_trans Nat.and_le_left (by show n ≤ 0x7ff0000000000000; omega)
    have e1 : FP.dmul (u64 (en (1023 - s) (T * 2 ^ s - 2 ^ 52))) 4841369599423283200 = u64 (en (1075 - s) (T * 2 ^ s - 2 ^ 52)) := by
      show UInt64.ofNat (FP.Core.mul FP.Core.b64 (u64 (en (1023 - s) (T * 2 ^ s - 2 ^ 52))).toNat 4841369599423283200) = _
      rw [u64_n (by omega)]
      unfold FP.Core.mul
      rw [fd_dec (by omega) (by omega) hT2, show FP.Core.decode FP.Core.b64 4841369599423283200 = .fin false (2 ^ 52) 0 by decide +kernel]
      show UInt64.ofNat (FP.Core.encode FP.Core.b64 (FP.Core.roundRatio FP.Core.b64 false ((2 ^ 52 + (T * 2 ^ s - 2 ^ 52)) * 2 ^ 52) 1 (((1023 - s : Nat) : Int) - 1075 + 0))) = _
      rw [fd_rA (q := -(s : Int)) (by omega) (by omega) (by omega) (by omega) (by omega), fd_enc (by omega) (by omega), show (-(s : Int) + 1075).toNat = 1075 - s by omega, Nat.add_sub_cancel_left]
      rfl
    have hl3 := en_lt (E := 1075 - s) (T := T * 2 ^ s - 2 ^ 52) (by omega) hT2
    rw [e1]
    refine ⟨hok _ hl2, hok _ hl3, ?_⟩
    show Int64.ofInt (FP.Core.toInt (-2 ^ 63) (2 ^ 63 - 1) (FP.Core.decode FP.Core.b64 (u64 (en (1075 - s) (T * 2 ^ s - 2 ^ 52))).toNat)) = _
    rw [u64_n (by omega), fd_dec (by omega) (by omega) hT2]
    show Int64.ofInt (max (-2 ^ 63) (min (2 ^ 63 - 1) (FP.Core.truncate false (2 ^ 52 + (T * 2 ^ s - 2 ^ 52)) (((1075 - s : Nat) : Int) - 1075)))) = _
    have ht : FP.Core.truncate false (2 ^ 52 + (T * 2 ^ s - 2 ^ 52)) (((1075 - s : Nat) : Int) - 1075) = (T : Int) := by
      unfold FP.Core.truncate
      rw [show 2 ^ 52 + (T * 2 ^ s - 2 ^ 52) = T * 2 ^ s by omega, show (((1075 - s : Nat) : Int) - 1075).toNat = 0 by omega, show (-(((1075 - s : Nat) : Int) - 1075)).toNat = s by omega, Nat.pow_zero, Nat.mul_one, Nat.mul_div_cancel _ (Nat.pos_of_ne_zero (by simp))]
      rfl
    rw [ht]
    congr 1
    omega
theorem ok_en {n : Nat} (hn : n < 2 ^ 63 - 2 ^ 52) : okd (u64 n) = true := by
  unfold okd
  refine decide_eq_true ?_
  rw [UInt64.le_iff_toNat_le, UInt64.toNat_and, u64_n (by omega)]
  exact Nat.le_trans Nat.and_le_left (by show n ≤ 0x7ff0000000000000; omega)
theorem cm_lt {a b : Int} (h : a < b) : Op.cmpValue (some (compare a b)) .g = -1 := by
  rw [show compare a b = .lt from by rw [Int.compare_eq_lt]; exact h]; rfl
theorem cm_gt {a b : Int} (h : b < a) : Op.cmpValue (some (compare a b)) .g = 1 := by
  rw [show compare a b = .gt from by rw [Int.compare_eq_gt]; exact h]; rfl
theorem cm_ge {a b : Int} (h : b ≤ a) : 0 ≤ Op.cmpValue (some (compare a b)) .g := by
  by_cases e : a = b
  · rw [show compare a b = .eq from by rw [Int.compare_eq_eq]; exact e]; decide
  · rw [cm_gt (by omega)]; decide
theorem fd_pos {E T : Nat} (h1 : 1 ≤ E) (h2 : E ≤ 2046) (hT : T < 2 ^ 52) : 0 < cmd (u64 (en E T)) 0 := by
  have hl := en_lt (E := E) h2 hT
  unfold cmd
  show 0 < Op.cmpValue (FP.Core.order (FP.Core.decode FP.Core.b64 (u64 (en E T)).toNat) (FP.Core.decode FP.Core.b64 0)) .g
  rw [u64_n (by omega), fd_dec h1 h2 hT, show FP.Core.decode FP.Core.b64 0 = .fin false 0 (-1074) by decide +kernel]
  show 0 < Op.cmpValue (some (compare (((2 ^ 52 + T) * 2 ^ ((E : Int) - 1075 - min ((E : Int) - 1075) (-1074)).toNat : Nat) : Int) ((0 * 2 ^ ((-1074 : Int) - min ((E : Int) - 1075) (-1074)).toNat : Nat) : Int))) .g
  rw [cm_gt]
  · decide
  · rw [Nat.zero_mul]
    have : 0 < (2 ^ 52 + T) * 2 ^ ((E : Int) - 1075 - min ((E : Int) - 1075) (-1074)).toNat := Nat.mul_pos (by omega) (Nat.pos_of_ne_zero (by simp))
    omega
theorem fd_one {E T : Nat} (h1 : 1 ≤ E) (h2 : E ≤ 1023) (hT : T < 2 ^ 52) : (0 ≤ cmd (u64 (en E T)) 4607182418800017408) ↔ E = 1023 := by
  have hl := en_lt (E := E) (by omega) hT
  have e : cmd (u64 (en E T)) 4607182418800017408 = Op.cmpValue (some (compare (((2 ^ 52 + T) * 2 ^ ((E : Int) - 1075 - min ((E : Int) - 1075) (-52)).toNat : Nat) : Int) ((2 ^ 52 * 2 ^ ((-52 : Int) - min ((E : Int) - 1075) (-52)).toNat : Nat) : Int))) .g := by
    show Op.cmpValue (FP.Core.order (FP.Core.decode FP.Core.b64 (u64 (en E T)).toNat) (FP.Core.decode FP.Core.b64 4607182418800017408)) .g = _
    rw [u64_n (by omega), fd_dec h1 (by omega) hT, show FP.Core.decode FP.Core.b64 4607182418800017408 = .fin false (2 ^ 52) (-52) by decide +kernel]
    rfl
  rw [e, show ((E : Int) - 1075 - min ((E : Int) - 1075) (-52)).toNat = 0 by omega, show ((-52 : Int) - min ((E : Int) - 1075) (-52)).toNat = 1023 - E by omega, Nat.pow_zero, Nat.mul_one]
  by_cases hE : E = 1023
  · subst hE
    refine ⟨fun _ => rfl, fun _ => cm_ge ?_⟩
    rw [Nat.sub_self, Nat.pow_zero]
    omega
  · refine ⟨fun h => absurd h ?_, fun h => absurd h hE⟩
    rw [cm_lt]
    · decide
    · have : 2 ^ 1 ≤ 2 ^ (1023 - E) := Nat.pow_le_pow_right (by decide) (by omega)
      have h3 : 2 ^ 52 * 2 ≤ 2 ^ 52 * 2 ^ (1023 - E) := Nat.mul_le_mul_left _ this
      omega
theorem fd_loop {T : Nat} (hT : T < 2 ^ 52) : ∀ (d k : Nat) (E : Nat) (z : Int), 1 ≤ E → E + d = 1023 → d ≤ k → dbO k (u64 (en E T)) (Int64.ofInt z) = some (u64 (en 1023 T), Int64.ofInt (z - d)) := by
  intro d
  induction d with
  | zero =>
    intro k E z h1 h2 hk
    have hE : E = 1023 := by omega
    subst hE
    rw [show z - ((0 : Nat) : Int) = z by omega]
    cases k with
    | zero => rfl
    | succ k =>
      unfold dbO
      rw [if_pos ((fd_one (by decide) (by decide) hT).mpr rfl)]
  | succ d ih =>
    intro k E z h1 h2 hk
    obtain ⟨j, rfl⟩ : ∃ j, k = j + 1 := ⟨k - 1, by omega⟩
    have hl := en_lt (E := E + 1) (T := T) (by omega) hT
    unfold dbO
    rw [if_neg (fun e => by have := (fd_one h1 (by omega) hT).mp e; omega), fd_two h1 (by omega) hT, if_pos (ok_en (by omega)), show Int64.ofInt z - 1 = Int64.ofInt (z - 1) from (Int64.ofInt_sub z 1).symm, ih j (E + 1) (z - 1) (by omega) (by omega) (by omega)]
    congr 2
    congr 1
    omega
theorem sh52 : ∀ E : Nat, E < 1024 → (Int64.ofInt (E : Int)) <<< ((52 : Int32).toInt64 &&& 63) = Int64.ofInt ((E * 2 ^ 52 : Nat) : Int) := by decide +kernel
theorem u64_i (n : Nat) : (u64 n).toInt64 = Int64.ofInt (n : Int) := by
  rw [Int64.ofInt_eq_ofNat]
  rfl
theorem fd_bits {E T : Nat} (h1 : 1 ≤ E) (h2 : E ≤ 1023) (hT : T < 2 ^ 52) : dbR (u64 (en E T)) = some (u64 (en E T)).toInt64 := by
  obtain ⟨t1, t2, t3⟩ := fd_tail hT
  have hlo : ∀ N, N = 1022 → dbO N (u64 (en E T)) (Int64.ofInt (1023 : Int)) = some (u64 (en 1023 T), Int64.ofInt ((E : Nat) : Int)) := fun N hN => by
    rw [fd_loop hT (1023 - E) N E 1023 h1 (by omega) (by omega)]
    congr 3
    omega
  unfold dbR
  rw [if_pos (fd_pos h1 (by omega) hT), show (1023 : Int64) = Int64.ofInt (1023 : Int) from rfl, hlo 1022 rfl]
  unfold dbE
  dsimp only
  rw [t1, t2, t3, if_pos (show (true && true) = true from rfl), sh52 E (by omega), u64_i, ← Int64.ofInt_add]
  rfl
/-- the quotient of two whole numbers, the first not the greater one -/
theorem fd_of {n : Nat} (h0 : 0 < n) (h : n < 2 ^ 53) : ∃ s : Nat, s ≤ 52 ∧ 2 ^ 52 ≤ n * 2 ^ s ∧ n * 2 ^ s < 2 ^ 53 ∧ FP.Core.decode FP.Core.b64 (FP.l2d (Int64.ofInt (n : Int))).toNat = .fin false (n * 2 ^ s) (-(s : Int)) := by
  obtain ⟨s, hs, g1, g2⟩ := fd_norm h0 h
  refine ⟨s, hs, g1, g2, ?_⟩
  have hn : (Int64.ofInt (n : Int)).toInt = (n : Int) := by
    rw [Int64.toInt_ofInt_of_le (by omega) (by omega)]
  show FP.Core.decode FP.Core.b64 (UInt64.ofNat (FP.Core.encode FP.Core.b64 (FP.Core.round FP.Core.b64 (FP.Core.ofInt (Int64.ofInt (n : Int)).toInt)))).toNat = _
  rw [hn]
  have e : FP.Core.ofInt (n : Int) = .fin false n 0 := by
    unfold FP.Core.ofInt
    rw [decide_eq_false (by omega)]
    rfl
  rw [e]
  show FP.Core.decode FP.Core.b64 (UInt64.ofNat (FP.Core.encode FP.Core.b64 (FP.Core.roundRatio FP.Core.b64 false n 1 0))).toNat = _
  rw [fd_rB (q := -(s : Int)) g1 g2 hs (by omega) (by omega) (by omega), fd_enc g1 (by omega), show (-(s : Int) + 1075).toNat = 1075 - s by omega]
  have hl := en_lt (E := 1075 - s) (T := n * 2 ^ s - 2 ^ 52) (by omega) (by omega)
  rw [show UInt64.ofNat (en (1075 - s) (n * 2 ^ s - 2 ^ 52)) = u64 (en (1075 - s) (n * 2 ^ s - 2 ^ 52)) from rfl, u64_n (by omega), fd_dec (by omega) (by omega) (by omega), show 2 ^ 52 + (n * 2 ^ s - 2 ^ 52) = n * 2 ^ s by omega, show ((1075 - s : Nat) : Int) - 1075 = -(s : Int) by omega]
theorem fd_lead2 {c d : Nat} (h1 : 2 ^ 52 ≤ c) (h2 : c < 2 ^ 53) (h3 : 2 ^ 52 ≤ d) (h4 : d < 2 ^ 53) : FP.Core.leading c d = if d ≤ c then 0 else -1 := by
  have e1 : c.log2 = 52 := (Nat.log2_eq_iff (by omega)).mpr ⟨h1, h2⟩
  have e2 : d.log2 = 52 := (Nat.log2_eq_iff (by omega)).mpr ⟨h3, h4⟩
  unfold FP.Core.leading
  rw [e1, e2]
  show (if d * 1 ≤ c * 1 then (0 : Int) else 0 - 1) = _
  rw [Nat.mul_one, Nat.mul_one]
  split <;> rfl
theorem near_ge {a d m : Nat} (hd : 0 < d) (h : m * d ≤ a) : m ≤ FP.Core.nearest a d := by
  have : m ≤ a / d := (Nat.le_div_iff_mul_le hd).mpr h
  unfold FP.Core.nearest
  split
  · exact this
  · split <;> omega
theorem near_le {a d m : Nat} (hd : 0 < d) (h : a ≤ m * d) : FP.Core.nearest a d ≤ m := by
  have hdm := Nat.div_add_mod a d
  have hml := Nat.mod_lt a hd
  unfold FP.Core.nearest
  by_cases e : a / d = m
  · have : a % d = 0 := by
      rw [e, Nat.mul_comm] at hdm
      omega
    rw [this, if_pos (by omega)]
    omega
  · have h1 : a / d < m := by
      have : a / d ≤ m := Nat.div_le_of_le_mul (by rw [Nat.mul_comm]; exact h)
      omega
    split
    · omega
    · split
      · omega
      · rename_i g1 g2
        have : a / d % 2 ≤ 1 := by omega
        omega
/-- the shares: zero, or a number that the bits tell -/
def shG (x : UInt64) : Prop := x = 0 ∨ ∃ E T, 1 ≤ E ∧ E ≤ 1023 ∧ T < 2 ^ 52 ∧ x = u64 (en E T)
theorem shG_div {a b : Nat} (ha : 0 < a) (hab : a ≤ b) (hb : b < 2 ^ 53) : shG (FP.ddiv (FP.l2d (Int64.ofInt (a : Int))) (FP.l2d (Int64.ofInt (b : Int)))) := by
  obtain ⟨s, hs, g1, g2, g3⟩ := fd_of ha (by omega)
  obtain ⟨t, ht, k1, k2, k3⟩ := fd_of (n := b) (by omega) hb
  have hst : t ≤ s := by
    refine Nat.le_of_not_lt (fun h => ?_)
    have h1 : 2 ^ (s + 1) ≤ 2 ^ t := Nat.pow_le_pow_right (by decide) h
    have h2 : a * 2 ^ (s + 1) ≤ b * 2 ^ t := Nat.mul_le_mul hab h1
    rw [Nat.pow_succ, ← Nat.mul_assoc] at h2
    omega
  have hle : s = t → a * 2 ^ s ≤ b * 2 ^ t := fun e => by
    subst e
    exact Nat.mul_le_mul_right _ hab
  unfold FP.ddiv
  show shG (UInt64.ofNat (FP.Core.encode FP.Core.b64 (FP.Core.quotient FP.Core.b64 (FP.Core.decode FP.Core.b64 (FP.l2d (Int64.ofInt (a : Int))).toNat) (FP.Core.decode FP.Core.b64 (FP.l2d (Int64.ofInt (b : Int))).toNat))))
  rw [g3, k3]
  generalize a * 2 ^ s = c at g1 g2 hle
  generalize b * 2 ^ t = d at k1 k2 hle
  show shG (UInt64.ofNat (FP.Core.encode FP.Core.b64 (if d = 0 then _ else FP.Core.roundRatio FP.Core.b64 false c d (-(s : Int) - -(t : Int)))))
  rw [if_neg (by omega)]
  unfold FP.Core.roundRatio
  rw [if_neg (by omega)]
  have fin : ∀ (c' : Nat) (q' : Int), 2 ^ 52 ≤ c' → c' < 2 ^ 53 → -1074 ≤ q' → q' ≤ -52 → shG (UInt64.ofNat (FP.Core.encode FP.Core.b64 (.fin false c' q'))) := fun c' q' h1 h2 h3 h4 => by
    rw [fd_enc h1 h3]
    exact Or.inr ⟨(q' + 1075).toNat, c' - 2 ^ 52, by omega, by omega, by omega, rfl⟩
  have main : ∀ (q : Int) (m : Nat), FP.Core.quantum FP.Core.b64 c d (-(s : Int) - -(t : Int)) = q → FP.Core.unitsNum c (-(s : Int) - -(t : Int)) q = m → FP.Core.unitsDen d (-(s : Int) - -(t : Int)) q = d → 2 ^ 52 * d ≤ m → m ≤ 2 ^ 53 * d → -1074 ≤ q → q ≤ -52 → (q = -52 → m ≤ 2 ^ 52 * d) → shG (UInt64.ofNat (FP.Core.encode FP.Core.b64 (FP.Core.roundAt FP.Core.b64 false c d (-(s : Int) - -(t : Int)) (FP.Core.quantum FP.Core.b64 c d (-(s : Int) - -(t : Int)))))) := by
    intro q m e1 e2 e3 h1 h2 h3 h4 h5
    rw [e1]
    unfold FP.Core.roundAt
    rw [e2, e3]
    have n1 := near_ge (a := m) (d := d) (by omega) h1
    have n2 := near_le (a := m) (d := d) (by omega) h2
    unfold FP.Core.settle
    show shG (UInt64.ofNat (FP.Core.encode FP.Core.b64 (if FP.Core.nearest m d < 2 ^ 53 then FP.Core.bound FP.Core.b64 false (FP.Core.nearest m d) q else FP.Core.bound FP.Core.b64 false (2 ^ 52) (q + 1))))
    unfold FP.Core.bound
    split
    · show shG (UInt64.ofNat (FP.Core.encode FP.Core.b64 (if q ≤ 971 then _ else _)))
      rw [if_pos (by omega)]
      exact fin _ _ n1 (by assumption) h3 h4
    · rename_i hn
      have hq : q ≠ -52 := fun e => by
        have := near_le (a := m) (d := d) (by omega) (h5 e)
        omega
      show shG (UInt64.ofNat (FP.Core.encode FP.Core.b64 (if q + 1 ≤ 971 then _ else _)))
      rw [if_pos (by omega)]
      exact fin _ _ (by decide) (by decide) (by omega) (by omega)
  have hq : FP.Core.quantum FP.Core.b64 c d (-(s : Int) - -(t : Int)) = max (-1074) ((if d ≤ c then 0 else -1) + (-(s : Int) - -(t : Int)) - (((53 : Nat) : Int) - 1)) := by
    unfold FP.Core.quantum
    rw [fd_lead2 g1 g2 k1 k2]
    rfl
  by_cases hdc : d ≤ c
  · rw [if_pos hdc] at hq
    refine main ((t : Int) - s - 52) (c * 2 ^ 52) (by omega) ?_ ?_ ?_ ?_ (by omega) (by omega) ?_
    · unfold FP.Core.unitsNum
      rw [show (-(s : Int) - -(t : Int) - ((t : Int) - s - 52)).toNat = 52 by omega]
    · unfold FP.Core.unitsDen
      rw [show ((t : Int) - s - 52 - (-(s : Int) - -(t : Int))).toNat = 0 by omega, Nat.pow_zero, Nat.mul_one]
    · omega
    · omega
    · intro e
      have := hle (by omega)
      omega
  · rw [if_neg hdc] at hq
    refine main ((t : Int) - s - 53) (c * 2 ^ 53) (by omega) ?_ ?_ ?_ ?_ (by omega) (by omega) (by omega)
    · unfold FP.Core.unitsNum
      rw [show (-(s : Int) - -(t : Int) - ((t : Int) - s - 53)).toNat = 53 by omega]
    · unfold FP.Core.unitsDen
      rw [show ((t : Int) - s - 53 - (-(s : Int) - -(t : Int))).toNat = 0 by omega, Nat.pow_zero, Nat.mul_one]
    · omega
    · omega
theorem shG_bits {x : UInt64} (h : shG x) : dbR x = some x.toInt64 := by
  rcases h with rfl | ⟨E, T, h1, h2, hT, rfl⟩
  · decide +kernel
  · exact fd_bits h1 h2 hT
theorem shG_ok {x : UInt64} (h : shG x) : vf_n64 x := by
  rcases h with rfl | ⟨E, T, h1, h2, hT, rfl⟩
  · exact okd_n (by decide +kernel)
  · exact okd_n (ok_en (en_lt (by omega) hT))
theorem shG_0 (b : Nat) (hb : 0 < b) (h2 : b < 2 ^ 53) : FP.ddiv (FP.l2d 0) (FP.l2d (Int64.ofInt (b : Int))) = 0 := by
  obtain ⟨t, ht, k1, k2, k3⟩ := fd_of (n := b) hb h2
  show UInt64.ofNat (FP.Core.encode FP.Core.b64 (FP.Core.quotient FP.Core.b64 (FP.Core.decode FP.Core.b64 (FP.l2d 0).toNat) (FP.Core.decode FP.Core.b64 (FP.l2d (Int64.ofInt (b : Int))).toNat))) = 0
  rw [k3, show FP.Core.decode FP.Core.b64 (FP.l2d 0).toNat = .fin false 0 (-1074) by decide +kernel]
  show UInt64.ofNat (FP.Core.encode FP.Core.b64 (if b * 2 ^ t = 0 then _ else FP.Core.roundRatio FP.Core.b64 false 0 (b * 2 ^ t) (-1074 - -(t : Int)))) = 0
  rw [if_neg (by omega)]
  rfl
theorem shG_q {a b : Nat} (hab : a ≤ b) (hb : b < 2 ^ 53) : shG (shQ (Int64.ofInt (a : Int)) (Int64.ofInt (b : Int))) := by
  unfold shQ
  split
  · exact Or.inl rfl
  · rename_i h
    have hb0 : 0 < b := Nat.pos_of_ne_zero (fun e => h (by subst e; rfl))
    by_cases ha : a = 0
    · subst ha
      exact Or.inl (shG_0 b hb0 hb)
    · exact shG_div (by omega) hab hb
theorem fb_bits : ∀ a, a < 33 → ∀ b, b < 33 → a ≤ b → fbR (deQ a b) = some (deQ a b).toInt32 := by decide +kernel
