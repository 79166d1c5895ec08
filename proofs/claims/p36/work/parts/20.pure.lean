/-! PURE WORDS: loops, rows, blades, signs, sums -/
theorem loop0 {P : Nat → Prop} {G : Prop} (e : Nat) (h0 : P 0 → G) (hs : ∀ i, i < e → P (i + 1) → P i) (he : P e) : G := by
  refine h0 ?_
  have : ∀ k i, i + k = e → P i := by
    intro k
    induction k with
    | zero => intro i h; rw [show i = e by omega]; exact he
    | succ k ih => intro i h; exact hs i (by omega) (ih (i + 1) (by omega))
  exact this e 0 (by omega)
/-- a row's first n places laid anew -/
def lay {α : Type} (I : Nat → Nat → α) (c n : Nat) (f : Nat → α) : Nat → Nat → α := mrow I c (cp0 f (I c) n)
section LAY
variable {α : Type} {I : Nat → Nat → α} {c n : Nat} {f g : Nat → α}
theorem lay_0 : lay I c 0 f = I := by
  funext a b
  unfold lay mrow
  by_cases h : a = c
  · rw [if_pos h, h]; simp [cp0]
  · rw [if_neg h]
theorem lay_at (c : Nat) : lay I c n f c = cp0 f (I c) n := by simp [lay, mrow]
theorem lay_in {j : Nat} (h : j < n) : lay I c n f c j = f j := by simp [lay_at, cp0, h]
theorem lay_out {j : Nat} (h : n ≤ j) : lay I c n f c j = I c j := by simp [lay_at, cp0, Nat.not_lt.mpr h]
theorem lay_ne {a : Nat} (h : a ≠ c) : lay I c n f a = I a := by simp [lay, mrow, h]
theorem lay_succ : mu (lay I c n f) c n (f n) = lay I c (n + 1) f := by
  funext a b
  by_cases ha : a = c
  · subst ha
    by_cases hb : b = n
    · subst hb; simp [mu, lay, mrow, cp0]
    · by_cases h : b < n
      · simp [mu, hb, lay, mrow, cp0, h, Nat.lt_succ_of_lt h]
      · simp [mu, hb, lay, mrow, cp0, h, show ¬ b < n + 1 by omega]
  · simp [mu, ha, lay, mrow]
theorem lay_up {x : α} (h : x = f n) : mu (lay I c n f) c n x = lay I c (n + 1) f := by rw [h, lay_succ]
theorem lay_cong (h : ∀ j, j < n → f j = g j) : lay I c n f = lay I c n g := by
  funext a b
  by_cases ha : a = c
  · subst ha
    by_cases hb : b < n
    · rw [lay_in hb, lay_in hb, h b hb]
    · rw [lay_out (by omega), lay_out (by omega)]
  · rw [lay_ne ha, lay_ne ha]
theorem lay_lay : lay (lay I c n f) c n g = lay I c n g := by
  funext a b
  by_cases ha : a = c
  · subst ha
    by_cases hb : b < n
    · rw [lay_in hb, lay_in hb]
    · rw [lay_out (by omega), lay_out (by omega), lay_out (by omega)]
  · rw [lay_ne ha, lay_ne ha, lay_ne ha]
/-- one place of a laid row changed -/
theorem lay_mu {j : Nat} {x : α} (h : j < n) : mu (lay I c n f) c j x = lay I c n (fun q => if q = j then x else f q) := by
  funext a b
  by_cases ha : a = c
  · subst ha
    by_cases hb : b = j
    · subst hb; rw [mu_self, lay_in h]; simp
    · rw [show mu (lay I a n f) a j x a b = lay I a n f a b by simp [mu, hb]]
      by_cases hbn : b < n
      · rw [lay_in hbn, lay_in hbn]; simp [hb]
      · rw [lay_out (by omega), lay_out (by omega)]
  · rw [mu_ne _ _ ha, lay_ne ha, lay_ne ha]
theorem lay_self : lay I c n (I c) = I := by
  funext a b
  by_cases ha : a = c
  · subst ha
    by_cases hb : b < n
    · rw [lay_in hb]
    · rw [lay_out (by omega)]
  · rw [lay_ne ha]
end LAY
def sumL (f : Nat → Int64) : Nat → Int64
  | 0 => 0
  | n + 1 => sumL f n + f n
theorem sumL_cong {f g : Nat → Int64} : ∀ {n : Nat}, (∀ i, i < n → f i = g i) → sumL f n = sumL g n
  | 0, _ => rfl
  | n + 1, h => by rw [sumL, sumL, sumL_cong (fun i hi => h i (Nat.lt_succ_of_lt hi)), h n (Nat.lt_succ_self n)]
/-- how many directions a blade has -/
def pc5 (n : Nat) : Nat := n % 2 + n / 2 % 2 + n / 4 % 2 + n / 8 % 2 + n / 16 % 2
/-- the directions of i that are greater than one, for each: an odd number of them -/
def abv (i : Nat) : Nat := ((i >>> 1) ^^^ (i >>> 2)) ^^^ (((i >>> 1) ^^^ (i >>> 2)) >>> 2)
/-- the turns of two blades are odd -/
def odT (i j : Nat) : Bool := pc5 (abv i &&& j) % 2 == 1
theorem nI0 : (nI 0) = 0 := rfl
def b2i (b : Bool) : Int32 := if b then 1 else 0
theorem b2i_01 (b : Bool) : b2i b = 0 ∨ b2i b = 1 := by cases b <;> simp [b2i]
theorem ot_arg : ∀ i, i < 32 → ∀ j, j < 32 → (((nI i >>> (1 &&& 31)) ^^^ ((nI i >>> (1 &&& 31)) >>> (1 &&& 31))) ^^^ (((nI i >>> (1 &&& 31)) ^^^ ((nI i >>> (1 &&& 31)) >>> (1 &&& 31))) >>> (2 &&& 31))) &&& nI j = nI (abv i &&& j) := by decide +kernel
theorem ot_lt : ∀ i, i < 32 → ∀ j, j < 32 → abv i &&& j < 32 := by decide +kernel
theorem ot_par : ∀ n, n < 32 → ((nI (pc5 n) &&& 1 = 1) ↔ pc5 n % 2 = 1) := by decide +kernel
/-- the sign of a blade's directions below n -/
def sgB (s : Nat → Int32) (b : Nat) : Nat → Int32
  | 0 => 1
  | k + 1 => if b.testBit k then sgB s b k * s k else sgB s b k
theorem bit_tst : ∀ b, b < 32 → ∀ k, k < 5 → ((nI b >>> (nI k &&& 31)) &&& 1 = 1 ↔ b.testBit k = true) := by decide +kernel
theorem nI32_ge {i : Nat} (h : i < 32) : ¬ (32 : Int32) ≤ nI i := nI_ge (b := 32) h (by decide)
theorem nI5_ge {i : Nat} (h : i < 5) : ¬ (5 : Int32) ≤ nI i := nI_ge (b := 5) h (by decide)
theorem nI_nge {i n : Nat} (h : i < n) (hn : n < 2 ^ 31) : ¬ nI n ≤ nI i := nI_ge h hn
theorem kd_row {b x : Nat} (hb : isSt b) (hx : x < 8) : kdC (b + 2 + x) = (1, 32, 0) := by
  rw [Nat.add_assoc]
  exact kd_st hb (by omega) (by unfold kdS; simp only [show ¬ 2 + x = 0 by omega, show ¬ 2 + x = 1 by omega, show 2 + x ≤ 9 by omega, if_false, if_true])
theorem kd_mrow {b x : Nat} (hb : isSt b) (hx : x < 5) : kdC (b + 12 + x) = (1, 5, 0) := by
  rw [Nat.add_assoc]
  exact kd_st hb (by omega) (by unfold kdS; simp only [show ¬ 12 + x = 0 by omega, show ¬ 12 + x = 1 by omega, show ¬ 12 + x ≤ 9 by omega, show ¬ 12 + x = 10 by omega, show ¬ 12 + x = 11 by omega, show 12 + x ≤ 16 by omega, if_false, if_true])
theorem kd_sg {b : Nat} (hb : isSt b) : kdC (b + 10) = (1, 5, 0) := kd_st hb (by decide) rfl
theorem kd_ta {b : Nat} (hb : isSt b) : kdC (b + 17) = (1, 9, 0) := kd_st hb (by decide) rfl
theorem kd_fr {b x : Nat} (hb : isSt b) (hx : x < 8) : (∃ w, kdC (b + 1) = (5, 8, w) ∧ b + 2 + x = b + 1 + 1 + x * w) ∧ 4 ≤ 5 ∧ 5 ≤ 6 ∧ nI x = nI x ∧ x < 8 := ⟨⟨1, kd_st hb (by decide) rfl, by omega⟩, by decide, by decide, rfl, hx⟩
theorem kd_mr {b x : Nat} (hb : isSt b) (hx : x < 5) : (∃ w, kdC (b + 11) = (5, 5, w) ∧ b + 12 + x = b + 11 + 1 + x * w) ∧ 4 ≤ 5 ∧ 5 ≤ 6 ∧ nI x = nI x ∧ x < 5 := ⟨⟨1, kd_st hb (by decide) rfl, by omega⟩, by decide, by decide, rfl, hx⟩
theorem andI : ∀ i, i < 32 → ∀ j, j < 32 → nI i &&& nI j = nI (i &&& j) := by decide +kernel
theorem orI : ∀ i, i < 32 → ∀ j, j < 32 → nI i ||| nI j = nI (i ||| j) := by decide +kernel
theorem xorI : ∀ i, i < 32 → ∀ j, j < 32 → nI i ^^^ nI j = nI (i ^^^ j) := by decide +kernel
theorem and_lt : ∀ i, i < 32 → ∀ j, j < 32 → i &&& j < 32 := by decide +kernel
theorem or_lt : ∀ i, i < 32 → ∀ j, j < 32 → i ||| j < 32 := by decide +kernel
theorem xor_lt : ∀ i, i < 32 → ∀ j, j < 32 → i ^^^ j < 32 := by decide +kernel
theorem andI0 {i j : Nat} (hi : i < 32) (hj : j < 32) : (nI i &&& nI j = 0) ↔ i &&& j = 0 := by
  rw [andI i hi j hj, show (0 : Int32) = nI 0 from rfl, nI_eq (Nat.lt_trans (and_lt i hi j hj) (by decide)) (by decide)]
theorem bl_1 : ∀ i, i < 32 → ∀ j, j < 32 → i &&& j = 0 → i &&& (i ||| j) = i ∧ (i ||| j) ^^^ i = j := by decide +kernel
theorem bl_2 : ∀ i, i < 32 → ∀ k, k < 32 → i &&& k = i → i &&& (k ^^^ i) = 0 ∧ k = i ||| (k ^^^ i) := by decide +kernel
/-- the other sign, if so -/
def sg (o : Bool) (x : Int64) : Int64 := if o then -x else x
theorem sg_0 (o : Bool) : sg o 0 = 0 := by cases o <;> rfl
/-- what the blade i of a gives, with the blades below j of b, to the blade k of the wedge -/
def wI (a b : Nat → Int32) (i j k : Nat) : Int64 := if i &&& k = i ∧ (k ^^^ i) < j then sg (odT i (k ^^^ i)) ((a i).toInt64 * (b (k ^^^ i)).toInt64) else 0
def wC (a b : Nat → Int32) (B k : Nat) : Int64 := sumL (fun i => wI a b i B k) B
theorem wI_0 (a b : Nat → Int32) (i k : Nat) : wI a b i 0 k = 0 := by simp [wI]
theorem wI_a0 {a b : Nat → Int32} {i j k : Nat} (h : a i = 0) : wI a b i j k = 0 := by
  unfold wI
  split
  · rw [h, show (0 : Int32).toInt64 = 0 from rfl, Int64.zero_mul, sg_0]
  · rfl
theorem wI_hit {a b : Nat → Int32} {i j : Nat} (hi : i < 32) (hj : j < 32) (h : i &&& j = 0) : wI a b i j (i ||| j) = 0 ∧ wI a b i (j + 1) (i ||| j) = sg (odT i j) ((a i).toInt64 * (b j).toInt64) := by
  obtain ⟨h1, h2⟩ := bl_1 i hi j hj h
  constructor
  · simp [wI, h1, h2]
  · simp [wI, h1, h2]
theorem wI_miss {a b : Nat → Int32} {i j k : Nat} (hi : i < 32) (hk : k < 32) (h : i &&& j = 0 → k ≠ i ||| j) : wI a b i (j + 1) k = wI a b i j k := by
  unfold wI
  by_cases h1 : i &&& k = i
  · obtain ⟨h2, h3⟩ := bl_2 i hi k hk h1
    have hne : k ^^^ i ≠ j := fun e => by
      rw [e] at h2 h3
      exact h h2 h3
    have : (k ^^^ i < j + 1) ↔ (k ^^^ i < j) := by omega
    simp only [h1, this, true_and]
  · simp [h1]
theorem wI_b0 {a b : Nat → Int32} {i j k : Nat} (hi : i < 32) (hj : j < 32) (hk : k < 32) (h : b j = 0) : wI a b i (j + 1) k = wI a b i j k := by
  by_cases h1 : i &&& j = 0
  · by_cases h2 : k = i ||| j
    · subst h2
      obtain ⟨e1, e2⟩ := wI_hit (a := a) (b := b) hi hj h1
      rw [e1, e2, h, show (0 : Int32).toInt64 = 0 from rfl, Int64.mul_zero, sg_0]
    · exact wI_miss hi hk (fun _ => h2)
  · exact wI_miss hi hk (fun e => absurd e h1)
def sgn (s : Nat → Int32) (i : Nat) : Int32 := sgB s i 5
/-- what the blade i of a gives, below the blade j, to the blade k of the contraction -/
def cI (s a b : Nat → Int32) (i j k : Nat) : Int64 := if k < j ∧ i &&& k = 0 then sg (odT i k) ((a i).toInt64 * (b (i ||| k)).toInt64 * (sgn s i).toInt64) else 0
def cC (s a b : Nat → Int32) (B k : Nat) : Int64 := sumL (fun i => cI s a b i B k) B
theorem cI_0 (s a b : Nat → Int32) (i k : Nat) : cI s a b i 0 k = 0 := by simp [cI]
theorem cI_a0 {s a b : Nat → Int32} {i j k : Nat} (h : a i = 0) : cI s a b i j k = 0 := by
  unfold cI
  split
  · rw [h, show (0 : Int32).toInt64 = 0 from rfl, Int64.zero_mul, Int64.zero_mul, sg_0]
  · rfl
theorem cI_hit {s a b : Nat → Int32} {i j : Nat} (h : i &&& j = 0) : cI s a b i j j = 0 ∧ cI s a b i (j + 1) j = sg (odT i j) ((a i).toInt64 * (b (i ||| j)).toInt64 * (sgn s i).toInt64) := by simp [cI, h]
theorem cI_miss {s a b : Nat → Int32} {i j k : Nat} (h : i &&& j = 0 → k ≠ j) : cI s a b i (j + 1) k = cI s a b i j k := by
  unfold cI
  by_cases h1 : i &&& k = 0
  · have hne : k ≠ j := fun e => by subst e; exact h h1 rfl
    have : (k < j + 1) ↔ (k < j) := by omega
    simp only [h1, this, and_true]
  · simp [h1]
theorem cI_b0 {s a b : Nat → Int32} {i j k : Nat} (h : b (i ||| j) = 0) : cI s a b i (j + 1) k = cI s a b i j k := by
  by_cases h1 : i &&& j = 0
  · by_cases h2 : k = j
    · subst h2
      obtain ⟨e1, e2⟩ := cI_hit (s := s) (a := a) (b := b) h1
      rw [e1, e2, h, show (0 : Int32).toInt64 = 0 from rfl, Int64.mul_zero, Int64.zero_mul, sg_0]
    · exact cI_miss (fun _ => h2)
  · exact cI_miss (fun e => absurd e h1)
theorem pow_le32 : ∀ n, n ≤ 5 → 2 ^ n ≤ 32 ∧ 0 < 2 ^ n := by decide
/-- the star's number for the blade k -/
def stC (s a : Nat → Int32) (B k : Nat) : Int64 := if k < B then sg (odT ((B - 1) ^^^ k) k) ((a ((B - 1) ^^^ k)).toInt64 * (sgn s ((B - 1) ^^^ k)).toInt64) else 0
/-- one more column: the image of a blade grown by it -/
def wcs (m : Nat → Nat → Int32) (n c : Nat) (f : Nat → Int64) (t : Nat) : Int64 := sumL (fun r => if t.testBit r then sg (odT (t ^^^ 2 ^ r) (2 ^ r)) (f (t ^^^ 2 ^ r) * (m r c).toInt64) else 0) n
/-- how many directions of a blade lie below c -/
def pcl (b : Nat) : Nat → Nat
  | 0 => 0
  | c + 1 => if b.testBit c then pcl b c + 1 else pcl b c
/-- the image of a blade by the columns below c -/
def gw (m : Nat → Nat → Int32) (n b : Nat) : Nat → Nat → Int64
  | 0 => fun k => if k = 0 then 1 else 0
  | c + 1 => if b.testBit c then wcs m n c (gw m n b c) else gw m n b c
/-- the same in one row, where numbers of other grades stay -/
def ig (m : Nat → Nat → Int32) (n b : Nat) (f0 : Nat → Int64) : Nat → Nat → Int64
  | 0 => fun k => if k = 0 then 1 else f0 k
  | c + 1 => if b.testBit c then (fun t => if t < 2 ^ n ∧ pc5 t = pcl b (c + 1) then wcs m n c (ig m n b f0 c) t else ig m n b f0 c t) else ig m n b f0 c
theorem pc5_drop : ∀ t, t < 32 → ∀ r, r < 5 → t.testBit r = true → pc5 (t ^^^ 2 ^ r) + 1 = pc5 t ∧ t ^^^ 2 ^ r < t := by decide +kernel
theorem tb_and : ∀ t, t < 32 → ∀ r, r < 5 → (nI t &&& nI (2 ^ r) = 0 ↔ t.testBit r = false) := by decide +kernel
theorem pow2_lt : ∀ r, r < 5 → 2 ^ r < 32 := by decide
theorem pc5_0 : ∀ t, t < 32 → pc5 t = 0 → t = 0 := by decide +kernel
theorem pcl_all : ∀ n, n ≤ 5 → ∀ b, b < 2 ^ n → pcl b n = pc5 b := by decide +kernel
theorem pcl_le : ∀ c, c ≤ 5 → ∀ b, b < 32 → pcl b c ≤ 5 := by decide +kernel
theorem pc5_all : ∀ n, n ≤ 5 → pc5 (2 ^ n - 1) = n := by decide +kernel
theorem pc5_le (n : Nat) : pc5 n ≤ 5 := by unfold pc5; omega
theorem ig_gw {m : Nat → Nat → Int32} {n b : Nat} {f0 : Nat → Int64} (hn : n ≤ 5) : ∀ c, ∀ t, t < 2 ^ n → pc5 t = pcl b c → ig m n b f0 c t = gw m n b c t := by
  have h32 := (pow_le32 n hn).1
  intro c
  induction c with
  | zero =>
    intro t ht h
    have : t = 0 := pc5_0 t (by omega) h
    subst this
    rfl
  | succ c ih =>
    intro t ht h
    simp only [ig, gw]
    by_cases hb : b.testBit c = true
    · simp only [hb, if_true]
      rw [if_pos ⟨ht, h⟩]
      unfold wcs
      refine sumL_cong (fun r hr => ?_)
      by_cases h1 : t.testBit r = true
      · obtain ⟨d1, d2⟩ := pc5_drop t (by omega) r (by omega) h1
        simp only [h1, if_true]
        rw [ih (t ^^^ 2 ^ r) (by omega) (by simp only [pcl, hb, if_true] at h; omega)]
      · simp only [h1]
        rfl
    · simp only [hb]
      simp only [pcl, hb] at h
      exact ih t ht h
/-- the image row behind the blades below i -/
def igF (m : Nat → Nat → Int32) (n : Nat) (a : Nat → Int32) (f0 : Nat → Int64) : Nat → Nat → Int64
  | 0 => f0
  | i + 1 => if a i = 0 then igF m n a f0 i else ig m n i (igF m n a f0 i) n
/-- the pushed form's number for the blade k -/
def puI (m : Nat → Nat → Int32) (n : Nat) (a : Nat → Int32) (k i : Nat) : Int64 := if k < 2 ^ n ∧ pc5 k = pc5 i then (a i).toInt64 * gw m n i n k else 0
def puC (m : Nat → Nat → Int32) (n : Nat) (a : Nat → Int32) (k : Nat) : Int64 := sumL (puI m n a k) (2 ^ n)
def inC (s a b : Nat → Int32) (B : Nat) : Int64 := sumL (fun k => (a k).toInt64 * (b k).toInt64 * (sgn s k).toInt64) B
theorem puI_a0 {m : Nat → Nat → Int32} {n : Nat} {a : Nat → Int32} {k i : Nat} (h : a i = 0) : puI m n a k i = 0 := by
  unfold puI
  split
  · rw [h, show (0 : Int32).toInt64 = 0 from rfl, Int64.zero_mul]
  · rfl
theorem pow_mono : ∀ n, n ≤ 5 → ∀ i, i < 2 ^ n → i < 32 := by decide
theorem bit_tst0 : ∀ t, t < 32 → ∀ c, c < 5 → ((nI t >>> (nI c &&& 31)) &&& 1 = 0 ↔ t.testBit c = false) := by decide +kernel
theorem lay_comm {α : Type} {I : Nat → Nat → α} {a c n k : Nat} {f g : Nat → α} (h : a ≠ c) : lay (lay I c n f) a k g = lay (lay I a k g) c n f := by
  funext x y
  by_cases hx : x = a
  · subst hx
    rw [lay_ne (I := lay I x k g) h, lay_at, lay_at, lay_ne h]
  · by_cases hc : x = c
    · subst hc
      rw [lay_ne (I := lay I x n f) hx, lay_at, lay_at, lay_ne hx]
    · rw [lay_ne hx, lay_ne hc, lay_ne hc, lay_ne hx]
theorem ig_cong {m : Nat → Nat → Int32} {n b : Nat} {f g : Nat → Int64} (h : ∀ j, j < 32 → f j = g j) : ∀ c, c ≤ 5 → ∀ k, k < 32 → ig m n b f c k = ig m n b g c k := by
  intro c
  induction c with
  | zero => intro _ k hk; simp only [ig]; rw [h k hk]
  | succ c ih =>
    intro hc k hk
    simp only [ig]
    by_cases hb : b.testBit c = true
    · simp only [hb, if_true]
      by_cases hk2 : k < 2 ^ n ∧ pc5 k = pcl b (c + 1)
      · rw [if_pos hk2, if_pos hk2]
        unfold wcs
        refine sumL_cong (fun r hr => ?_)
        by_cases hr2 : k.testBit r = true
        · simp only [hr2, if_true]
          have hr5 : r < 5 := by
            rcases Nat.lt_or_ge r 5 with q | q
            · exact q
            · have : 2 ^ 5 ≤ 2 ^ r := Nat.pow_le_pow_right (by decide) q
              rw [Nat.testBit_lt_two_pow (by omega)] at hr2
              cases hr2
          obtain ⟨d1, d2⟩ := pc5_drop k hk r hr5 hr2
          rw [ih (by omega) _ (by omega)]
        · simp only [hr2]
          rfl
      · rw [if_neg hk2, if_neg hk2]
        exact ih (by omega) k hk
    · simp only [hb]
      exact ih (by omega) k hk
/-- there is nothing -/
abbrev NON : Int32 := -1000000000
def iabs (x : Int32) : Int32 := if x < 0 then -x else x
def imax (x y : Int32) : Int32 := if x < y then y else x
def cnz (f : Nat → Int32) : Nat → Nat
  | 0 => 0
  | n + 1 => cnz f n + if f n = 0 then 0 else 1
def loF (f : Nat → Int32) : Nat → Int32
  | 0 => NON
  | n + 1 => if f n ≠ 0 ∧ (loF f n = NON ∨ nI (pc5 n) < loF f n) then nI (pc5 n) else loF f n
def hiF (f : Nat → Int32) : Nat → Int32
  | 0 => NON
  | n + 1 => if f n ≠ 0 ∧ hiF f n < nI (pc5 n) then nI (pc5 n) else hiF f n
def grF (f : Nat → Int32) (n : Nat) : Int32 := if loF f n = hiF f n then loF f n else NON
def gmF (f : Nat → Int32) : Nat → Int32
  | 0 => 0
  | n + 1 => imax (gmF f n) (iabs (f n))
def ldO (f : Nat → Int32) : Nat → Option Nat
  | 0 => none
  | n + 1 => match ldO f n with
    | some k => some k
    | none => if f n = 0 then none else some n
def ldI (f : Nat → Int32) (n : Nat) : Int32 := match ldO f n with
  | some k => nI k
  | none => NON
def lcI (f : Nat → Int32) (n : Nat) : Int32 := match ldO f n with
  | some k => f k
  | none => NON
def drF (f : Nat → Int32) : Nat → Nat
  | 0 => 0
  | n + 1 => if f n = 0 then drF f n else drF f n ||| n
theorem ldO_some {f : Nat → Int32} : ∀ {n k : Nat}, ldO f n = some k → k < n ∧ f k ≠ 0 ∧ ∀ j, j < k → f j = 0
  | 0, k, h => by simp [ldO] at h
  | n + 1, k, h => by
    simp only [ldO] at h
    cases e : ldO f n with
    | some q =>
      rw [e] at h
      simp at h
      subst h
      obtain ⟨h1, h2⟩ := ldO_some e
      exact ⟨by omega, h2⟩
    | none =>
      rw [e] at h
      by_cases hz : f n = 0
      · simp [hz] at h
      · simp [hz] at h
        subst h
        refine ⟨Nat.lt_succ_self n, hz, fun j hj => ?_⟩
        exact ldO_none e j hj
where ldO_none {f : Nat → Int32} : ∀ {n : Nat}, ldO f n = none → ∀ j, j < n → f j = 0
  | 0, _, j, hj => absurd hj (Nat.not_lt_zero j)
  | n + 1, h, j, hj => by
    simp only [ldO] at h
    cases e : ldO f n with
    | some q => rw [e] at h; simp at h
    | none =>
      rw [e] at h
      by_cases hz : f n = 0
      · rcases Nat.lt_or_ge j n with q | q
        · exact ldO_none e j q
        · rw [show j = n by omega]; exact hz
      · simp [hz] at h
theorem ldO_of_none {f : Nat → Int32} : ∀ n, (∀ j, j < n → f j = 0) → ldO f n = none
  | 0, _ => rfl
  | n + 1, h => by simp [ldO, ldO_of_none n (fun j hj => h j (Nat.lt_succ_of_lt hj)), h n (Nat.lt_succ_self n)]
theorem ldO_of {f : Nat → Int32} {k : Nat} (hk : f k ≠ 0) (hz : ∀ j, j < k → f j = 0) : ∀ n, k < n → ldO f n = some k
  | 0, h => absurd h (Nat.not_lt_zero k)
  | n + 1, h => by
    rcases Nat.lt_or_ge k n with q | q
    · simp [ldO, ldO_of hk hz n q]
    · have : n = k := by omega
      subst this
      simp [ldO, ldO_of_none n hz, hk]
/-- both forms are not 0 and multiples of each other, as far as n -/
def sameF (f g : Nat → Int32) (n : Nat) : Prop := ∀ k, k < n → f k = g k
def likeF (f g : Nat → Int32) (n : Nat) : Prop := ∃ q, ldO f n = some q ∧ g q ≠ 0 ∧ ∀ k, k < n → (f k).toInt64 * (g q).toInt64 = (g k).toInt64 * (f q).toInt64
def sgI (o : Bool) (x : Int32) : Int32 := if o then -x else x
/-- the number for the direction k of the form of the grade 1 that is told for the blade i -/
def paI (f : Nat → Int32) (i k : Nat) : Int32 := if i.testBit k then 0 else sgI (odT i (2 ^ k)) (f (i ||| 2 ^ k))
/-- the factor's number: left directions of the lead are skipped, from the direction d on -/
def faF (f : Nat → Int32) (L dir : Nat) : Nat → Nat → Nat → Int32
  | 0, _, _ => NON
  | k + 1, d, left => if L.testBit d then (if left = 0 then sgI (odT L (2 ^ d)) (paI f (L ^^^ 2 ^ d) dir) else faF f L dir k (d + 1) (left - 1)) else faF f L dir k (d + 1) left
def faI (f : Nat → Int32) (p dir : Nat) : Int32 := match ldO f 32 with
  | some L => faF f L dir 5 0 p
  | none => NON
theorem NON_ne {n : Nat} (h : n < 2 ^ 31) : nI n ≠ NON := fun e => by
  have h1 := nI_toInt h
  rw [e] at h1
  have : (NON : Int32).toInt = -1000000000 := by decide
  omega
theorem NON_neg : (NON : Int32) < 0 := by decide
theorem nI_nn {n : Nat} (h : n < 2 ^ 31) : ¬ nI n < 0 := nI_pos h
/-- the places that p names, with v's numbers -/
noncomputable def fb {α : Type} (I : Nat → Nat → α) (p : Nat → Nat → Prop) (v : Nat → Nat → α) : Nat → Nat → α := fun a j => @ite α (p a j) (Classical.propDecidable _) (v a j) (I a j)
section FB
variable {α : Type} {I : Nat → Nat → α} {p q : Nat → Nat → Prop} {v : Nat → Nat → α}
theorem fb_in {a j : Nat} (h : p a j) : fb I p v a j = v a j := if_pos h
theorem fb_out {a j : Nat} (h : ¬ p a j) : fb I p v a j = I a j := if_neg h
theorem fb_ne {a : Nat} (h : ∀ j, ¬ p a j) : fb I p v a = I a := by funext j; exact fb_out (h j)
theorem fb_0 (h : ∀ a j, ¬ p a j) : fb I p v = I := by funext a j; exact fb_out (h a j)
theorem fb_cong (h : ∀ a j, p a j ↔ q a j) : fb I p v = fb I q v := by
  have : p = q := by funext a j; exact propext (h a j)
  rw [this]
theorem fb_mu {c k : Nat} {x : α} (hx : x = v c k) (h : ∀ a j, q a j ↔ (p a j ∨ (a = c ∧ j = k))) : mu (fb I p v) c k x = fb I q v := by
  funext a j
  by_cases e : a = c ∧ j = k
  · obtain ⟨rfl, rfl⟩ := e
    rw [mu_self, fb_in ((h a j).mpr (Or.inr ⟨rfl, rfl⟩)), hx]
  · rw [show mu (fb I p v) c k x a j = fb I p v a j by simp [mu, e]]
    by_cases hp : p a j
    · rw [fb_in hp, fb_in ((h a j).mpr (Or.inl hp))]
    · rw [fb_out hp, fb_out (fun z => ((h a j).mp z).elim hp e)]
theorem fb_one {c k : Nat} {x : α} (hx : x = v c k) (h : ∀ a j, q a j ↔ (a = c ∧ j = k)) : mu I c k x = fb I q v := by
  funext a j
  by_cases e : a = c ∧ j = k
  · obtain ⟨rfl, rfl⟩ := e
    rw [mu_self, fb_in ((h a j).mpr ⟨rfl, rfl⟩), hx]
  · rw [show mu I c k x a j = I a j by simp [mu, e], fb_out (fun z => e ((h a j).mp z))]
theorem fb_row {c n : Nat} {f : Nat → α} (hx : ∀ j, j < n → f j = v c j) (h : ∀ a j, q a j ↔ (p a j ∨ (a = c ∧ j < n))) : mrow (fb I p v) c (cp0 f (fb I p v c) n) = fb I q v := by
  funext a j
  by_cases e : a = c
  · subst e
    simp only [mrow, if_true, cp0]
    by_cases hj : j < n
    · rw [if_pos hj, fb_in ((h a j).mpr (Or.inr ⟨rfl, hj⟩)), hx j hj]
    · rw [if_neg hj]
      by_cases hp : p a j
      · rw [fb_in hp, fb_in ((h a j).mpr (Or.inl hp))]
      · rw [fb_out hp, fb_out (fun z => ((h a j).mp z).elim hp (fun w => hj w.2))]
  · simp only [mrow, if_neg e]
    by_cases hp : p a j
    · rw [fb_in hp, fb_in ((h a j).mpr (Or.inl hp))]
    · rw [fb_out hp, fb_out (fun z => ((h a j).mp z).elim hp (fun w => e w.1))]
end FB
theorem st_apart {b o : Nat} (hb : isSt b) (ho : isSt o) (h : b ≠ o) : b + 18 ≤ o ∨ o + 18 ≤ b := by
  rcases hb with rfl | ⟨j, hj, rfl⟩ | ⟨j, hj, rfl⟩ <;> rcases ho with rfl | ⟨k, hk, rfl⟩ | ⟨k, hk, rfl⟩ <;> omega
/-- a State's numbers but the tallies -/
def scP (b a j : Nat) : Prop := (a = b ∧ j = 0) ∨ (b + 2 ≤ a ∧ a < b + 10 ∧ j < 32) ∨ (a = b + 10 ∧ j < 5) ∨ (b + 12 ≤ a ∧ a < b + 17 ∧ j < 5)
def alP (b a j : Nat) : Prop := scP b a j ∨ (a = b + 17 ∧ j < 9)
/-- the State at b taken from that at o -/
noncomputable def cpS (I : IM) (b o : Nat) : IM := fb I (scP b) (fun a j => I (o + (a - b)) j)
noncomputable def cpA (I : IM) (b o : Nat) : IM := fb I (alP b) (fun a j => I (o + (a - b)) j)
/-- the numbers of a new dimension -/
def nwV (b : Nat) (n : Int32) (a j : Nat) : Int32 := if a = b then n else if a < b + 10 then 0 else if a = b + 10 then 1 else if a - (b + 12) = j then 1 else 0
noncomputable def nwS (I : IM) (b : Nat) (n : Int32) : IM := fb I (scP b) (nwV b n)
theorem nI8_ge {i : Nat} (h : i < 8) : ¬ (8 : Int32) ≤ nI i := nI_ge (b := 8) h (by decide)
/-- how many forms of the State at b are not 0 -/
def cfS (I : IM) (b : Nat) : Nat → Nat
  | 0 => 0
  | s + 1 => cfS I b s + match ldO (I (b + 2 + s)) 32 with
    | some _ => 1
    | none => 0
