/-! THE REFERENCE: small things -/
/-- the form in a slot -/
def frR (I : IM) (s : Nat) : Nat → Int32 := fun k => I 1 (40 + 32 * s + k)
theorem ix_fr (s k : Nat) : (40 : Int32) + 32 * nI s + nI k = nI (40 + 32 * s + k) := by
  rw [show (40 : Int32) = nI 40 from rfl, show (32 : Int32) = nI 32 from rfl, nI_mul, nI_add, nI_add]
theorem ix_mx (r c : Nat) : (6 : Int32) + 5 * nI r + nI c = nI (6 + 5 * r + c) := by
  rw [show (6 : Int32) = nI 6 from rfl, show (5 : Int32) = nI 5 from rfl, nI_mul, nI_add, nI_add]
theorem ix_ln (r c : Nat) : (5 : Int32) * nI r + nI c = nI (5 * r + c) := by
  rw [show (5 : Int32) = nI 5 from rfl, nI_mul, nI_add]
theorem ix_1 (k : Nat) : (1 : Int32) + nI k = nI (1 + k) := by rw [show (1 : Int32) = nI 1 from rfl, nI_add]
theorem qX8_thrown (l : Launch) (I : IM) (L : LM) : KX8_thrown l [.ref 0] I L (some (.int (I 0 7))) I L := by
  refine wX8_thrown l rfl (hz0 (by decide)) (fun V hV => ?_)
  refine ru_fin hV 3 [] rfl rfl ⟨trivial, (by first | exact rfl | assumption | exact ⟨rfl, rfl⟩ | exact ⟨rfl, rfl, by omega⟩ | exact ⟨by assumption, rfl, by omega⟩ | exact ⟨⟨_, rfl, rfl⟩, by decide, by decide, rfl, by omega⟩ | omega | decide)⟩ ?_
  exact ⟨rfl, rfl, rfl⟩
theorem qX8_fails (l : Launch) (x : Int32) (I : IM) (L : LM) : KX8_fails l [.ref 0, .int x] I L (some (.int 0)) (mu I 0 7 x) L := by
  refine wX8_fails l rfl (hz0 (by decide)) (fun V hV => ?_)
  refine ru_fin hV 5 [] rfl rfl ⟨trivial, (by first | exact rfl | assumption | exact ⟨rfl, rfl⟩ | exact ⟨rfl, rfl, by omega⟩ | exact ⟨by assumption, rfl, by omega⟩ | exact ⟨⟨_, rfl, rfl⟩, by decide, by decide, rfl, by omega⟩ | omega | decide)⟩ ?_
  exact ⟨rfl, rfl, rfl⟩
theorem qX8_in (l : Launch) (x a b : Int32) (I : IM) (L : LM) : KX8_in l [.int x, .int a, .int b] I L (some (.int (b2i (decide (a ≤ x ∧ x ≤ b))))) I L := by
  refine wX8_in l rfl (fun _ x h => by cases h; exact b2i_01 _) (fun V hV => ?_)
  by_cases h1 : x < a
  · rw [decide_eq_false (fun e => absurd h1 (Int32.not_lt.mpr e.1))] at hV
    refine ru_fin hV 5 [(1, 0)] rfl rfl ⟨trivial, h1⟩ ?_
    exact ⟨rfl, rfl, rfl⟩
  · by_cases h2 : b < x
    · rw [decide_eq_false (fun e => absurd h2 (Int32.not_lt.mpr e.2))] at hV
      refine ru_fin hV 8 [(0, 0), (1, 0)] rfl rfl ⟨⟨trivial, h1⟩, h2⟩ ?_
      exact ⟨rfl, rfl, rfl⟩
    · rw [decide_eq_true ⟨Int32.not_lt.mp h1, Int32.not_lt.mp h2⟩] at hV
      refine ru_fin hV 9 [(0, 0), (0, 0)] rfl rfl ⟨⟨trivial, h1⟩, h2⟩ ?_
      exact ⟨rfl, rfl, rfl⟩
theorem qX8_blades (l : Launch) {n : Nat} (hn : n ≤ 5) {I : IM} (hd : I 1 0 = nI n) (L : LM) : KX8_blades l [.ref 0] I L (some (.int (nI (2 ^ n)))) I L := by
  refine wX8_blades l rfl (hz0 (by decide)) (fun V hV => ?_)
  refine ru_fin hV 7 [(1, 0), (0, 296)] rfl rfl ⟨⟨trivial, (by first | exact rfl | assumption | exact ⟨rfl, rfl⟩ | exact ⟨rfl, rfl, by omega⟩ | exact ⟨by assumption, rfl, by omega⟩ | exact ⟨⟨_, rfl, rfl⟩, by decide, by decide, rfl, by omega⟩ | omega | decide)⟩, (by first | exact rfl | assumption | exact ⟨rfl, rfl⟩ | exact ⟨rfl, rfl, by omega⟩ | exact ⟨by assumption, rfl, by omega⟩ | exact ⟨⟨_, rfl, rfl⟩, by decide, by decide, rfl, by omega⟩ | omega | decide)⟩ ?_
  rw [hd, bl_sh n hn]
  exact ⟨rfl, rfl, rfl⟩
theorem in_0 (x : Int32) (m : Nat) (hm : m < 2 ^ 31) (h0 : 0 < m) : b2i (decide ((0 : Int32) ≤ x ∧ x ≤ nI (m - 1))) = 1 ↔ ∃ k, k < m ∧ x = nI k := by
  unfold b2i
  rw [show (if decide ((0 : Int32) ≤ x ∧ x ≤ nI (m - 1)) = true then (1 : Int32) else 0) = 1 ↔ ((0 : Int32) ≤ x ∧ x ≤ nI (m - 1)) by
    by_cases h : (0 : Int32) ≤ x ∧ x ≤ nI (m - 1)
    · simp [h]
    · simp [h]]
  refine ⟨fun ⟨h1, h2⟩ => ?_, fun ⟨k, hk, e⟩ => ?_⟩
  · obtain ⟨k, hk, rfl⟩ := nI_of (Int32.not_lt.mpr h1)
    exact ⟨k, by have := (nI_leI hk (by omega)).mp h2; omega, rfl⟩
  · subst e
    exact ⟨nI_pos' (by omega), nI_le (by omega) (by omega)⟩
theorem in_t {k m : Nat} (hk : k < m) (hm : m < 2 ^ 31) : b2i (decide ((0 : Int32) ≤ nI k ∧ nI k ≤ nI (m - 1))) = 1 := (in_0 (nI k) m hm (by omega)).mpr ⟨k, hk, rfl⟩
theorem in_f {x : Int32} {m : Nat} (h : ouR x m) (hm : m < 2 ^ 31) (h0 : 0 < m) : b2i (decide ((0 : Int32) ≤ x ∧ x ≤ nI (m - 1))) = 0 := by
  have h1 : ¬ b2i (decide ((0 : Int32) ≤ x ∧ x ≤ nI (m - 1))) = 1 := fun e => by
    obtain ⟨k, hk, rfl⟩ := (in_0 x m hm h0).mp e
    exact noR hk hm h
  rcases b2i_01 (decide ((0 : Int32) ≤ x ∧ x ≤ nI (m - 1))) with e | e
  · exact e
  · exact absurd e h1
theorem qX8_isSlot (l : Launch) {k : Nat} (hk : k < 8) (I : IM) (L : LM) : KX8_isSlot l [.int (nI k)] I L (some (.int 1)) I L := by
  refine wX8_isSlot l rfl (fun _ x h => by cases h; exact Or.inr rfl) (fun V hV => ?_)
  have e := qX8_in l (nI k) 0 7 I L
  rw [show b2i (decide ((0 : Int32) ≤ nI k ∧ nI k ≤ 7)) = 1 from in_t (m := 8) hk (by decide)] at e
  refine ru_go hV 3 [] rfl rfl trivial ?_
  refine ru_S hV [] sSX8_54 e rfl rfl rfl (Nat.le_of_ble_eq_true rfl) ?_
  refine ru_fin hV 1 [] rfl rfl trivial ?_
  exact ⟨rfl, rfl, rfl⟩
theorem xX8_isSlot (l : Launch) {x : Int32} (hx : ouR x 8) (I : IM) (L : LM) : KX8_isSlot l [.int x] I L (some (.int 0)) I L := by
  refine wX8_isSlot l rfl (fun _ x h => by cases h; exact Or.inl rfl) (fun V hV => ?_)
  have e := qX8_in l x 0 7 I L
  rw [show b2i (decide ((0 : Int32) ≤ x ∧ x ≤ 7)) = 0 from in_f (m := 8) hx (by decide) (by decide)] at e
  refine ru_go hV 3 [] rfl rfl trivial ?_
  refine ru_S hV [] sSX8_54 e rfl rfl rfl (Nat.le_of_ble_eq_true rfl) ?_
  refine ru_fin hV 1 [] rfl rfl trivial ?_
  exact ⟨rfl, rfl, rfl⟩
theorem qX8_isDirection (l : Launch) {k n : Nat} (hk : k < n) (hn : n ≤ 5) {I : IM} (hd : I 1 0 = nI n) (L : LM) : KX8_isDirection l [.ref 0, .int (nI k)] I L (some (.int 1)) I L := by
  refine wX8_isDirection l rfl (fun _ x h => by cases h; exact Or.inr rfl) (fun V hV => ?_)
  have e := qX8_in l (nI k) 0 (nI (n - 1)) I L
  rw [in_t (m := n) hk (by omega)] at e
  refine ru_go hV 8 [(1, 0), (0, 296)] rfl rfl ⟨⟨trivial, (by first | exact rfl | assumption | exact ⟨rfl, rfl⟩ | exact ⟨rfl, rfl, by omega⟩ | exact ⟨by assumption, rfl, by omega⟩ | exact ⟨⟨_, rfl, rfl⟩, by decide, by decide, rfl, by omega⟩ | omega | decide)⟩, (by first | exact rfl | assumption | exact ⟨rfl, rfl⟩ | exact ⟨rfl, rfl, by omega⟩ | exact ⟨by assumption, rfl, by omega⟩ | exact ⟨⟨_, rfl, rfl⟩, by decide, by decide, rfl, by omega⟩ | omega | decide)⟩ ?_
  rw [hd, show nI n - 1 = nI (n - 1) from nI_sub (b := 1) (by omega)]
  refine ru_S hV [] sSX8_54 e rfl rfl rfl (Nat.le_of_ble_eq_true rfl) ?_
  refine ru_fin hV 1 [] rfl rfl trivial ?_
  exact ⟨rfl, rfl, rfl⟩
theorem xX8_isDirection (l : Launch) {x : Int32} {n : Nat} (hx : ouR x n) (h0 : 0 < n) (hn : n ≤ 5) {I : IM} (hd : I 1 0 = nI n) (L : LM) : KX8_isDirection l [.ref 0, .int x] I L (some (.int 0)) I L := by
  refine wX8_isDirection l rfl (fun _ x h => by cases h; exact Or.inl rfl) (fun V hV => ?_)
  have e := qX8_in l x 0 (nI (n - 1)) I L
  rw [in_f (m := n) hx (by omega) h0] at e
  refine ru_go hV 8 [(1, 0), (0, 296)] rfl rfl ⟨⟨trivial, (by first | exact rfl | assumption | exact ⟨rfl, rfl⟩ | exact ⟨rfl, rfl, by omega⟩ | exact ⟨by assumption, rfl, by omega⟩ | exact ⟨⟨_, rfl, rfl⟩, by decide, by decide, rfl, by omega⟩ | omega | decide)⟩, (by first | exact rfl | assumption | exact ⟨rfl, rfl⟩ | exact ⟨rfl, rfl, by omega⟩ | exact ⟨by assumption, rfl, by omega⟩ | exact ⟨⟨_, rfl, rfl⟩, by decide, by decide, rfl, by omega⟩ | omega | decide)⟩ ?_
  rw [hd, show nI n - 1 = nI (n - 1) from nI_sub (b := 1) (by omega)]
  refine ru_S hV [] sSX8_54 e rfl rfl rfl (Nat.le_of_ble_eq_true rfl) ?_
  refine ru_fin hV 1 [] rfl rfl trivial ?_
  exact ⟨rfl, rfl, rfl⟩
theorem qX8_isBlade (l : Launch) {k n : Nat} (hk : k < 2 ^ n) (hn : n ≤ 5) {I : IM} (hd : I 1 0 = nI n) (L : LM) : KX8_isBlade l [.ref 0, .int (nI k)] I L (some (.int 1)) I L := by
  have hB := pow_le32 n hn
  refine wX8_isBlade l rfl (fun _ x h => by cases h; exact Or.inr rfl) (fun V hV => ?_)
  have e := qX8_in l (nI k) 0 (nI (2 ^ n - 1)) I L
  rw [in_t (m := 2 ^ n) hk (by omega)] at e
  refine ru_go hV 3 [] rfl rfl trivial ?_
  refine ru_V hV [.int 0, .int (nI k)] sVX8_58 (qX8_blades l hn hd L) rfl rfl rfl rfl rfl (Nat.le_of_ble_eq_true rfl) ?_
  refine ru_go hV 2 [] rfl rfl trivial ?_
  rw [show nI (2 ^ n) - 1 = nI (2 ^ n - 1) from nI_sub (b := 1) (by omega)]
  refine ru_S hV [] sSX8_54 e rfl rfl rfl (Nat.le_of_ble_eq_true rfl) ?_
  refine ru_fin hV 1 [] rfl rfl trivial ?_
  exact ⟨rfl, rfl, rfl⟩
theorem xX8_isBlade (l : Launch) {x : Int32} {n : Nat} (hx : ouR x (2 ^ n)) (hn : n ≤ 5) {I : IM} (hd : I 1 0 = nI n) (L : LM) : KX8_isBlade l [.ref 0, .int x] I L (some (.int 0)) I L := by
  have hB := pow_le32 n hn
  refine wX8_isBlade l rfl (fun _ x h => by cases h; exact Or.inl rfl) (fun V hV => ?_)
  have e := qX8_in l x 0 (nI (2 ^ n - 1)) I L
  rw [in_f (m := 2 ^ n) hx (by omega) hB.2] at e
  refine ru_go hV 3 [] rfl rfl trivial ?_
  refine ru_V hV [.int 0, .int x] sVX8_58 (qX8_blades l hn hd L) rfl rfl rfl rfl rfl (Nat.le_of_ble_eq_true rfl) ?_
  refine ru_go hV 2 [] rfl rfl trivial ?_
  rw [show nI (2 ^ n) - 1 = nI (2 ^ n - 1) from nI_sub (b := 1) (by omega)]
  refine ru_S hV [] sSX8_54 e rfl rfl rfl (Nat.le_of_ble_eq_true rfl) ?_
  refine ru_fin hV 1 [] rfl rfl trivial ?_
  exact ⟨rfl, rfl, rfl⟩
theorem qX8_at (l : Launch) {s k : Nat} (hs : s < 8) (hk : k < 32) (I : IM) (L : LM) : KX8_at l [.ref 0, .int (nI s), .int (nI k)] I L (some (.int (frR I s k))) I L := by
  refine wX8_at l rfl (hz0 (by decide)) (fun V hV => ?_)
  refine ru_fin hV 11 [(1, 0), ((40+32*s+k), 296)] rfl rfl ⟨⟨trivial, (by first | exact rfl | assumption | exact ⟨rfl, rfl⟩ | exact ⟨rfl, rfl, by omega⟩ | exact ⟨by assumption, rfl, by omega⟩ | exact ⟨⟨_, rfl, rfl⟩, by decide, by decide, rfl, by omega⟩ | omega | decide)⟩, ⟨rfl, ix_fr s k, by omega⟩⟩ ?_
  exact ⟨rfl, rfl, rfl⟩
theorem bt_01 : ∀ b, b < 32 → ∀ k, k < 5 → (nI b >>> (nI k &&& 31)) &&& 1 = if b.testBit k then 1 else 0 := by decide +kernel
theorem qX8_grade (l : Launch) {b : Nat} (hb : b < 32) (I : IM) (L : LM) : KX8_grade l [.int (nI b)] I L (some (.int (nI (pc5 b)))) I L := by
  rw [← pcl_all 5 (Nat.le_refl 5) b hb]
  refine wX8_grade l rfl (hz0 (by decide)) (fun V hV => ?_)
  refine ru_go hV 4 [] rfl rfl trivial ?_
  refine loop0 (P := fun k => V 4 [(0, .int (nI b)), (1, .int (nI (pcl b k))), (2, .int (nI k))] [] I L) 5 (fun h => h) (fun k hk ih => ?_) ?_
  · refine ru_go hV 13 [(0, 0)] rfl rfl ⟨trivial, nI5_ge hk⟩ ?_
    rw [bt_01 b hb k hk, nI_1]
    cases h : b.testBit k with
    | true =>
      rw [if_pos rfl, nI_1]
      rw [show pcl b (k + 1) = pcl b k + 1 by simp [pcl, h]] at ih
      exact ih
    | false =>
      rw [show (if false = true then (1 : Int32) else 0) = 0 from rfl, Int32.add_zero]
      rw [show pcl b (k + 1) = pcl b k by simp [pcl, h]] at ih
      exact ih
  · refine ru_fin hV 5 [(1, 0)] rfl rfl ⟨trivial, (by first | exact rfl | assumption | exact ⟨rfl, rfl⟩ | exact ⟨rfl, rfl, by omega⟩ | exact ⟨by assumption, rfl, by omega⟩ | exact ⟨⟨_, rfl, rfl⟩, by decide, by decide, rfl, by omega⟩ | omega | decide)⟩ ?_
    exact ⟨rfl, rfl, rfl⟩
/-- how many directions of i are turned with those of j -/
def trn (i j : Nat) : Nat → Nat
  | 0 => 0
  | k + 1 => if i.testBit k then trn i j k + pc5 (j &&& (2 ^ k - 1)) else trn i j k
theorem trn_le (i j : Nat) : ∀ k, trn i j k ≤ 5 * k
  | 0 => Nat.le_refl _
  | k + 1 => by
    have := trn_le i j k
    have := pc5_le (j &&& (2 ^ k - 1))
    unfold trn
    split <;> omega
theorem msk : ∀ k, k < 5 → (1 : Int32) <<< (nI k &&& 31) - 1 = nI (2 ^ k - 1) := by decide +kernel
theorem qX8_turns (l : Launch) {i j : Nat} (hi : i < 32) (hj : j < 32) (I : IM) (L : LM) : KX8_turns l [.int (nI i), .int (nI j)] I L (some (.int (nI (trn i j 5)))) I L := by
  refine wX8_turns l rfl (hz0 (by decide)) (fun V hV => ?_)
  refine ru_go hV 4 [] rfl rfl trivial ?_
  refine loop0 (P := fun k => V 4 [(0, .int (nI i)), (1, .int (nI j)), (2, .int (nI (trn i j k))), (3, .int (nI k))] [] I L) 5 (fun h => h) (fun k hk ih => ?_) ?_
  · by_cases h : i.testBit k = true
    · have hm : 2 ^ k - 1 < 32 := by have := pow2_lt k hk; omega
      refine ru_go hV 18 [(0, 0), (0, 0)] rfl rfl ⟨⟨trivial, nI5_ge hk⟩, (fun e => e (by rw [bt_01 i hi k hk, if_pos h]))⟩ ?_
      rw [msk k hk, andI j hj _ hm]
      refine ru_S hV [.int _] sSX8_62 (qX8_grade l (and_lt j hj _ hm) I L) rfl rfl rfl (Nat.le_of_ble_eq_true rfl) ?_
      refine ru_go hV 5 [] rfl rfl trivial ?_
      rw [nI_1, nI_add]
      rw [show trn i j (k + 1) = trn i j k + pc5 (j &&& (2 ^ k - 1)) by simp [trn, h]] at ih
      exact ih
    · refine ru_go hV 16 [(0, 0), (1, 0)] rfl rfl ⟨⟨trivial, nI5_ge hk⟩, (by rw [bt_01 i hi k hk, if_neg h]; decide)⟩ ?_
      rw [nI_1, Int32.add_zero]
      rw [show trn i j (k + 1) = trn i j k by simp [trn, h]] at ih
      exact ih
  · refine ru_fin hV 5 [(1, 0)] rfl rfl ⟨trivial, (by first | exact rfl | assumption | exact ⟨rfl, rfl⟩ | exact ⟨rfl, rfl, by omega⟩ | exact ⟨by assumption, rfl, by omega⟩ | exact ⟨⟨_, rfl, rfl⟩, by decide, by decide, rfl, by omega⟩ | omega | decide)⟩ ?_
    exact ⟨rfl, rfl, rfl⟩
theorem trn_od : ∀ i, i < 32 → ∀ j, j < 32 → (trn i j 5 % 2 = 1 ↔ odT i j = true) := by decide +kernel
def wyI (o : Bool) : Int32 := if o then -1 else 1
theorem rem2 : ∀ a, a < 26 → nI a - nI a / 2 * 2 = nI (a % 2) := by decide +kernel
theorem qX8_way (l : Launch) {i j : Nat} (hi : i < 32) (hj : j < 32) (I : IM) (L : LM) : KX8_way l [.int (nI i), .int (nI j)] I L (some (.int (wyI (odT i j)))) I L := by
  have ht := trn_le i j 5
  have ho := trn_od i hi j hj
  refine wX8_way l rfl (hz0 (by decide)) (fun V hV => ?_)
  refine ru_go hV 2 [] rfl rfl trivial ?_
  refine ru_S hV [] sSX8_66 (qX8_turns l hi hj I L) rfl rfl rfl (Nat.le_of_ble_eq_true rfl) ?_
  generalize trn i j 5 = t at ht ho
  cases h : odT i j with
  | true =>
    rw [h] at hV
    have : t % 2 = 1 := ho.mpr h
    refine ru_fin hV 5 [(1, 0)] rfl rfl ⟨⟨trivial, (by decide)⟩, (by rw [rem2 t (by omega), this]; decide)⟩ ?_
    exact ⟨rfl, rfl, rfl⟩
  | false =>
    rw [h] at hV
    have : t % 2 = 0 := by
      have : ¬ t % 2 = 1 := fun e => by rw [ho.mp e] at h; cases h
      omega
    refine ru_fin hV 6 [(0, 0)] rfl rfl ⟨⟨trivial, (by decide)⟩, (by rw [rem2 t (by omega), this]; decide)⟩ ?_
    exact ⟨rfl, rfl, rfl⟩
theorem wy_sg (o : Bool) (x : Int64) : x * (wyI o).toInt64 = sg o x := by
  cases o with
  | true =>
    show x * (-1 : Int64) = -x
    rw [Int64.mul_neg, Int64.mul_one]
  | false =>
    show x * (1 : Int64) = x
    rw [Int64.mul_one]
/-- the signs of the reference -/
def sgR (I : IM) : Nat → Int32 := fun k => I 1 (1 + k)
theorem qX8_signOf (l : Launch) {b n : Nat} (hb : b < 32) (hn : n ≤ 5) {I : IM} (hd : I 1 0 = nI n) (L : LM) : KX8_signOf l [.ref 0, .int (nI b)] I L (some (.int (sgB (sgR I) b n))) I L := by
  refine wX8_signOf l rfl (hz0 (by decide)) (fun V hV => ?_)
  refine ru_go hV 4 [] rfl rfl trivial ?_
  refine loop0 (P := fun k => V 4 [(0, .ref 0), (1, .int (nI b)), (2, .int (sgB (sgR I) b k)), (3, .int (nI k))] [] I L) n (fun h => h) (fun k hk ih => ?_) ?_
  · by_cases h : b.testBit k = true
    · refine ru_go hV 25 [(1, 0), (0, 296), (0, 0), (0, 0), (1, 0), ((1+k), 296)] rfl rfl ⟨⟨⟨⟨⟨⟨trivial, (by first | exact rfl | assumption | exact ⟨rfl, rfl⟩ | exact ⟨rfl, rfl, by omega⟩ | exact ⟨by assumption, rfl, by omega⟩ | exact ⟨⟨_, rfl, rfl⟩, by decide, by decide, rfl, by omega⟩ | omega | decide)⟩, (by first | exact rfl | assumption | exact ⟨rfl, rfl⟩ | exact ⟨rfl, rfl, by omega⟩ | exact ⟨by assumption, rfl, by omega⟩ | exact ⟨⟨_, rfl, rfl⟩, by decide, by decide, rfl, by omega⟩ | omega | decide)⟩, (by rw [hd]; exact nI_nge hk (by omega))⟩, (fun e => e (by rw [bt_01 b hb k (by omega), if_pos h]))⟩, (by first | exact rfl | assumption | exact ⟨rfl, rfl⟩ | exact ⟨rfl, rfl, by omega⟩ | exact ⟨by assumption, rfl, by omega⟩ | exact ⟨⟨_, rfl, rfl⟩, by decide, by decide, rfl, by omega⟩ | omega | decide)⟩, ⟨rfl, ix_1 k, by omega⟩⟩ ?_
      rw [nI_1]
      rw [show sgB (sgR I) b (k + 1) = sgB (sgR I) b k * I 1 (1 + k) by simp [sgB, h, sgR]] at ih
      exact ih
    · refine ru_go hV 19 [(1, 0), (0, 296), (0, 0), (1, 0)] rfl rfl ⟨⟨⟨⟨trivial, (by first | exact rfl | assumption | exact ⟨rfl, rfl⟩ | exact ⟨rfl, rfl, by omega⟩ | exact ⟨by assumption, rfl, by omega⟩ | exact ⟨⟨_, rfl, rfl⟩, by decide, by decide, rfl, by omega⟩ | omega | decide)⟩, (by first | exact rfl | assumption | exact ⟨rfl, rfl⟩ | exact ⟨rfl, rfl, by omega⟩ | exact ⟨by assumption, rfl, by omega⟩ | exact ⟨⟨_, rfl, rfl⟩, by decide, by decide, rfl, by omega⟩ | omega | decide)⟩, (by rw [hd]; exact nI_nge hk (by omega))⟩, (by rw [bt_01 b hb k (by omega), if_neg h]; decide)⟩ ?_
      rw [nI_1, Int32.mul_one]
      rw [show sgB (sgR I) b (k + 1) = sgB (sgR I) b k by simp [sgB, h]] at ih
      exact ih
  · refine ru_fin hV 8 [(1, 0), (0, 296), (1, 0)] rfl rfl ⟨⟨⟨trivial, (by first | exact rfl | assumption | exact ⟨rfl, rfl⟩ | exact ⟨rfl, rfl, by omega⟩ | exact ⟨by assumption, rfl, by omega⟩ | exact ⟨⟨_, rfl, rfl⟩, by decide, by decide, rfl, by omega⟩ | omega | decide)⟩, (by first | exact rfl | assumption | exact ⟨rfl, rfl⟩ | exact ⟨rfl, rfl, by omega⟩ | exact ⟨by assumption, rfl, by omega⟩ | exact ⟨⟨_, rfl, rfl⟩, by decide, by decide, rfl, by omega⟩ | omega | decide)⟩, (by rw [hd]; exact nI_le (Nat.le_refl n) (by omega))⟩ ?_
    exact ⟨rfl, rfl, rfl⟩
theorem sgB_hi : ∀ n, n ≤ 5 → ∀ b, b < 2 ^ n → ∀ k, k < 5 → n ≤ k → b.testBit k = false := by decide +kernel
theorem sgB_up {s : Nat → Int32} {b n : Nat} (hn : n ≤ 5) (hb : b < 2 ^ n) : sgB s b n = sgn s b := by
  have key : ∀ m, n + m ≤ 5 → sgB s b (n + m) = sgB s b n := by
    intro m
    induction m with
    | zero => intro _; rfl
    | succ m ih =>
      intro h
      rw [show n + (m + 1) = (n + m) + 1 from rfl]
      have e := sgB_hi n hn b hb (n + m) (by omega) (by omega)
      simp only [sgB, e]
      exact ih (by omega)
  have := key (5 - n) (by omega)
  rw [show n + (5 - n) = 5 by omega] at this
  exact this.symm
