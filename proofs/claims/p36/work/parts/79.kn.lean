/-! THE KERNEL of the class, in whole numbers -/
theorem nL_ne {y : Nat} (h : y < 2 ^ 63) (e : y ≠ 0) : nL y ≠ 0 := fun z => e (nL_inj (b := 0) h (by decide) z)
theorem cdW_ok : ∀ (j k x y : Nat), 2 * j + 1 ≤ k → y < 2 ^ j → x < 2 ^ 63 → y < 2 ^ 63 → cdW k (nL x) (nL y) = nL (Nat.gcd x y)
  | 0, k + 1, x, y, _, hy, hx, _ => by
    have : y = 0 := by simpa using hy
    subst this
    rw [cdW, if_pos (show nL 0 = 0 from rfl), Nat.gcd_zero_right]
  | j + 1, k + 1, x, y, hk, hy, hx, hy2 => by
    rw [cdW]
    by_cases e : y = 0
    · subst e
      rw [if_pos (show nL 0 = 0 from rfl), Nat.gcd_zero_right]
    · rw [if_neg (nL_ne hy2 e), nL_rem hx hy2]
      have hr : x % y < y := Nat.mod_lt _ (by omega)
      obtain ⟨k', rfl⟩ : ∃ k', k = k' + 1 := ⟨k - 1, by omega⟩
      rw [cdW]
      by_cases e2 : x % y = 0
      · rw [e2, if_pos (show nL 0 = 0 from rfl), Nat.gcd_comm, Nat.gcd_rec, e2, Nat.gcd_zero_left]
      · rw [if_neg (nL_ne (by omega) e2), nL_rem hy2 (by omega)]
        have hr2 : y % (x % y) < x % y := Nat.mod_lt _ (by omega)
        have hh : 2 * (y % (x % y)) < y := by
          have := Nat.div_add_mod y (x % y)
          have hq : 0 < y / (x % y) := Nat.div_pos (by omega) (by omega)
          have := Nat.le_mul_of_pos_right (x % y) hq
          omega
        rw [cdW_ok j k' (x % y) (y % (x % y)) (by omega) (by rw [Nat.pow_succ] at hy; omega) (by omega) (by omega)]
        congr 1
        rw [Nat.gcd_comm (x % y), ← Nat.gcd_rec, ← Nat.gcd_rec, Nat.gcd_comm]
def gN (x : Nat → Int) : Nat → Nat
  | 0 => 0
  | k + 1 => Nat.gcd (gN x k) (x k).natAbs
theorem gN_lt {x : Nat → Int} {B : Nat} (hB : 0 < B) : ∀ {n : Nat}, (∀ k, k < n → (x k).natAbs < B) → gN x n < B
  | 0, _ => hB
  | n + 1, h => by
    have ih := gN_lt hB (fun k hk => h k (by omega) : ∀ k, k < n → (x k).natAbs < B)
    rw [gN]
    by_cases e : (x n).natAbs = 0
    · rw [e, Nat.gcd_zero_right]; exact ih
    · exact Nat.lt_of_le_of_lt (Nat.gcd_le_right _ (by omega)) (h n (by omega))
theorem gN_dvd {x : Nat → Int} : ∀ {n k : Nat}, k < n → gN x n ∣ (x k).natAbs
  | 0, _, h => absurd h (by omega)
  | n + 1, k, h => by
    rw [gN]
    by_cases e : k = n
    · rw [e]; exact Nat.gcd_dvd_right _ _
    · exact Nat.dvd_trans (Nat.gcd_dvd_left _ _) (gN_dvd (by omega))
theorem dvd_gN {x : Nat → Int} {a : Nat} : ∀ {n : Nat}, (∀ k, k < n → a ∣ (x k).natAbs) → a ∣ gN x n
  | 0, _ => Nat.dvd_zero a
  | n + 1, h => Nat.dvd_gcd (dvd_gN (fun k hk => h k (by omega))) (h n (by omega))
theorem gN_mul {x : Nat → Int} {c : Int} : ∀ n, gN (fun k => c * x k) n = c.natAbs * gN x n
  | 0 => rfl
  | n + 1 => by rw [gN, gN, gN_mul n, Int.natAbs_mul, Nat.gcd_mul_left]
theorem gN_cong {x y : Nat → Int} : ∀ {n : Nat}, (∀ k, k < n → x k = y k) → gN x n = gN y n
  | 0, _ => rfl
  | n + 1, h => by rw [gN, gN, gN_cong (fun k hk => h k (by omega)), h n (by omega)]
theorem clD_n {r : Nat → Int64} : ∀ {n : Nat}, (∀ k, k < n → r k ≠ Int64.minValue) → clD r n = nL (gN (fun k => (r k).toInt) n)
  | 0, _ => rfl
  | n + 1, h => by
    have hg := gN_lt (x := fun k => (r k).toInt) (B := 2 ^ 63) (n := n) (by decide) (fun k hk => natAbs_lt (h k (by omega)))
    rw [clD, clD_n (fun k hk => h k (by omega)), labs_n (h n (by omega)), cdG]
    have h2 := natAbs_lt (h n (by omega))
    exact cdW_ok 63 200 _ _ (by decide) h2 hg h2
/-! values -/
theorem sumL_I {t : Nat → Int64} {T : Int} (hT0 : 0 ≤ T) (hT : T ≤ 2 ^ 59) : ∀ {n : Nat}, n ≤ 5 → (∀ d, d < n → -T ≤ (t d).toInt ∧ (t d).toInt ≤ T) → (sumL t n).toInt = sumI (fun d => (t d).toInt) n ∧ -(n * T) ≤ sumI (fun d => (t d).toInt) n ∧ sumI (fun d => (t d).toInt) n ≤ n * T
  | 0, _, _ => by
    refine ⟨rfl, ?_⟩
    show -(((0 : Nat) : Int) * T) ≤ 0 ∧ 0 ≤ ((0 : Nat) : Int) * T
    simp
  | n + 1, hn, h => by
    obtain ⟨h1, h2, h3⟩ := sumL_I hT0 hT (by omega : n ≤ 5) (fun d hd => h d (by omega))
    have h4 := h n (by omega)
    have h5 : (n : Int) * T ≤ 4 * T := Int.mul_le_mul_of_nonneg_right (by omega) hT0
    rw [sumL, sumI, Int64.toInt_add, h1]
    have h6 : ((n + 1 : Nat) : Int) * T = n * T + T := by rw [Int.natCast_add, Int.add_mul]; simp
    rw [h6]
    exact ⟨bm64 (by omega) (by omega), by omega, by omega⟩
/-- the lines down to the blade b -/
def Bt (f : Nat → Int32) (n b : Nat) : VM := fun k d => if k ≤ b then lnF f n k d else 0
/-- numbers up to 60 -/
def f60 (f : Nat → Int32) (n : Nat) : Prop := ∀ k, k < 2 ^ n → -60 ≤ (f k).toInt ∧ (f k).toInt ≤ 60
theorem lnF_I {f : Nat → Int32} {n k d : Nat} (h : f60 f n) (hk : k < 2 ^ n) (hd : d < n) (hb : k.testBit d = true) (hx : k ^^^ 2 ^ d < 2 ^ n) : lnF f n k d = sg (odT (2 ^ d) (k ^^^ 2 ^ d)) (f (k ^^^ 2 ^ d)).toInt64 ∧ (lnF f n k d).toInt = if odT (2 ^ d) (k ^^^ 2 ^ d) then -(f (k ^^^ 2 ^ d)).toInt else (f (k ^^^ 2 ^ d)).toInt := by
  have e : lnF f n k d = sg (odT (2 ^ d) (k ^^^ 2 ^ d)) (f (k ^^^ 2 ^ d)).toInt64 := if_pos ⟨hk, hb⟩
  refine ⟨e, ?_⟩
  rw [e]
  have := h _ hx
  cases odT (2 ^ d) (k ^^^ 2 ^ d) with
  | true =>
    show (-(f (k ^^^ 2 ^ d)).toInt64).toInt = -(f (k ^^^ 2 ^ d)).toInt
    rw [neg_I (by rw [Int32.toInt_toInt64]; omega), Int32.toInt_toInt64]
  | false => exact Int32.toInt_toInt64 _
theorem bit_lt : ∀ n, n ≤ 5 → ∀ k, k < 2 ^ n → ∀ d, d < 5 → k.testBit d = true → d < n ∧ k ^^^ 2 ^ d < 2 ^ n := by decide +kernel
theorem lnF_sb {f : Nat → Int32} {n : Nat} (hn : n ≤ 5) (h : f60 f n) {k d : Nat} (hd : d < 5) : sb (lnF f n k d).toInt := by
  by_cases e : k < 2 ^ n ∧ k.testBit d = true
  · obtain ⟨h1, h2⟩ := bit_lt n hn k e.1 d hd e.2
    rw [(lnF_I h e.1 h1 e.2 h2).2]
    have := h _ h2
    split
    · show -60 ≤ -(f (k ^^^ 2 ^ d)).toInt ∧ -(f (k ^^^ 2 ^ d)).toInt ≤ 60
      omega
    · exact this
  · rw [show lnF f n k d = 0 from if_neg e]
    show -60 ≤ (0 : Int64).toInt ∧ (0 : Int64).toInt ≤ 60
    decide
theorem Bt_sb {f : Nat → Int32} {n : Nat} (hn : n ≤ 5) (h : f60 f n) (b : Nat) : ∀ k, k < 32 → ∀ d, d < 5 → sb (Bt f n b k d).toInt := fun k _ d hd => by
  unfold Bt
  split
  · exact lnF_sb hn h hd
  · show -60 ≤ (0 : Int64).toInt ∧ (0 : Int64).toInt ≤ 60
    decide
/-- a value, exactly -/
theorem vaA_I {f : Nat → Int32} {n b : Nat} (hn : n ≤ 5) (h : f60 f n) (hb : b < 2 ^ n) {v : Nat → Int64} {X : Int} (hX : 0 ≤ X ∧ X ≤ 2 ^ 50) (hv : ∀ d, d < n → -X ≤ (v d).toInt ∧ (v d).toInt ≤ X) : (vaA f b v n).toInt = sumI (fun d => (lnF f n b d).toInt * (v d).toInt) n ∧ -(300 * X) ≤ (vaA f b v n).toInt ∧ (vaA f b v n).toInt ≤ 300 * X := by
  have term : ∀ d, d < n → (if b.testBit d then sg (odT (2 ^ d) (b ^^^ 2 ^ d)) (v d * (f (b ^^^ 2 ^ d)).toInt64) else 0 : Int64).toInt = (lnF f n b d).toInt * (v d).toInt ∧ -(60 * X) ≤ (lnF f n b d).toInt * (v d).toInt ∧ (lnF f n b d).toInt * (v d).toInt ≤ 60 * X := by
    intro d hd
    refine ⟨?_, mulb (lnF_sb hn h (by omega)) (hv d hd)⟩
    by_cases e : b.testBit d = true
    · obtain ⟨h1, h2⟩ := bit_lt n hn b hb d (by omega) e
      obtain ⟨-, e2⟩ := lnF_I h hb h1 e h2
      have hf := h _ h2
      have hvd := hv d hd
      have hm := mulb hvd hf
      rw [if_pos e, e2]
      have em : (v d * (f (b ^^^ 2 ^ d)).toInt64).toInt = (v d).toInt * (f (b ^^^ 2 ^ d)).toInt := by
        rw [Int64.toInt_mul, Int32.toInt_toInt64, bm64 (by omega) (by omega)]
      cases odT (2 ^ d) (b ^^^ 2 ^ d) with
      | true =>
        show (-(v d * (f (b ^^^ 2 ^ d)).toInt64)).toInt = (if true = true then -(f (b ^^^ 2 ^ d)).toInt else _) * (v d).toInt
        rw [neg_I (by rw [em]; omega), em, if_pos rfl]
        grind
      | false =>
        show (v d * (f (b ^^^ 2 ^ d)).toInt64).toInt = (if false = true then _ else (f (b ^^^ 2 ^ d)).toInt) * (v d).toInt
        rw [em, if_neg (by decide), Int.mul_comm]
    · rw [if_neg e, show lnF f n b d = 0 from if_neg (fun z => e z.2)]
      show (0 : Int64).toInt = (0 : Int64).toInt * _
      rw [show (0 : Int64).toInt = 0 from rfl, Int.zero_mul]
  have hs := sumL_I (t := fun k => if b.testBit k then sg (odT (2 ^ k) (b ^^^ 2 ^ k)) (v k * (f (b ^^^ 2 ^ k)).toInt64) else 0) (T := 60 * X) (by omega) (by omega) hn (fun d hd => by rw [(term d hd).1]; exact (term d hd).2)
  have e : sumI (fun d => (if b.testBit d then sg (odT (2 ^ d) (b ^^^ 2 ^ d)) (v d * (f (b ^^^ 2 ^ d)).toInt64) else 0 : Int64).toInt) n = sumI (fun d => (lnF f n b d).toInt * (v d).toInt) n := sumI_cong (fun d hd => (term d hd).1)
  rw [e] at hs
  unfold vaA
  refine ⟨hs.1, ?_⟩
  rw [hs.1]
  have : (n : Int) * (60 * X) ≤ 5 * (60 * X) := Int.mul_le_mul_of_nonneg_right (by omega) (by omega)
  omega
/-! the null spaces from blade to blade -/
theorem Nu_Bt {f : Nat → Int32} {n b : Nat} (hb : b + 1 < 32) {v : Nat → Int} : Nu (Bt f n (b + 1)) n v ↔ Nu (Bt f n b) n v ∧ sumI (fun d => (lnF f n (b + 1) d).toInt * v d) n = 0 := by
  have row : ∀ c k, k ≤ c → (fun d => (Bt f n c k d).toInt * v d) = (fun d => (lnF f n k d).toInt * v d) := fun c k hk => by
    funext d
    rw [Bt, if_pos hk]
  have zer : ∀ c k, ¬ k ≤ c → sumI (fun d => (Bt f n c k d).toInt * v d) n = 0 := fun c k hk => by
    rw [sumI_cong (t := fun _ => 0) (fun d _ => by rw [Bt, if_neg hk]; exact Int.zero_mul _), sumI_0]
  constructor
  · intro h
    refine ⟨fun k hk => ?_, ?_⟩
    · by_cases e : k ≤ b
      · have := h k hk
        rw [row _ _ (by omega)] at this
        rw [row _ _ e]
        exact this
      · exact zer b k e
    · have := h (b + 1) hb
      rw [row _ _ (Nat.le_refl _)] at this
      exact this
  · rintro ⟨h1, h2⟩ k hk
    by_cases e : k ≤ b
    · have := h1 k hk
      rw [row _ _ e] at this
      rw [row _ _ (by omega)]
      exact this
    · by_cases e2 : k = b + 1
      · rw [e2, row _ _ (Nat.le_refl _)]
        exact h2
      · exact zer (b + 1) k (by omega)
theorem Nu_LN (A : VM) (n : Nat) : LN (Nu A n) := fun _ _ a b hv hw => Nu.lin hv hw a b
theorem Nu_cong {A : VM} {n : Nat} {v w : Nat → Int} (h : ∀ d, d < n → v d = w d) : Nu A n v ↔ Nu A n w := by
  constructor
  · intro hv k hk
    rw [← hv k hk]
    exact sumI_cong (fun d hd => by rw [h d hd])
  · intro hw k hk
    rw [← hw k hk]
    exact sumI_cong (fun d hd => by rw [h d hd])
theorem Nu_div {A : VM} {n : Nat} {v : Nat → Int} {D : Int} (hD : D ≠ 0) (h : Nu A n (fun d => D * v d)) : Nu A n v := fun k hk => by
  have := h k hk
  rw [sumI_cong (t := fun d => D * ((A k d).toInt * v d) - 0 * v d) (fun d _ => by grind), sumI_lin] at this
  have : D * sumI (fun d => (A k d).toInt * v d) n = 0 := by omega
  exact (Int.mul_eq_zero.mp this).resolve_left hD
